/** The sentences of promises 1 to 21 that name a bound, an empty or a full case, a refused call: a method for each promise. */
public final class EdgeTellTest {
    private static final Edge edge = new Edge();
    private static final int BAD = QuotaLaws.BAD, STATE = QuotaLaws.STATE, FULL = QuotaLaws.FULL, NONE = QuotaLaws.NONE;
    private static final int MIN = Integer.MIN_VALUE, MAX = Integer.MAX_VALUE;
    private static final String LAW = "law 1 1 1 1;", ONE = "one 1 1 1 1;";
    private static final String FIVE = LAW + LAW + LAW + LAW + LAW, THREE = ONE + ONE + ONE;

    public static void main(String[] args) {
        newObject();
        feed();
        end();
        text();
        fault();
        rule();
        law();
        one();
        broken();
        quota();
        carry();
        watch();
        time();
        refuse();
        want();
        fund();
        revive();
        breaks();
        year();
        falls();
        most();
        edge.finish(1, 21);
    }

    private static void newObject() {
        edge.promise(1, "No LAWS, nobody; SHEETS of nothing.");
        QuotaLaws x = new QuotaLaws();
        edge.is("no LAWS", x.rule(0), 0);
        edge.is("nobody", x.rule(1), 0);
        edge.is("none STANDS", x.count(0), 0);
        edge.is("no LAW 0", x.law(0, 0), BAD);
        edge.is("no ONE 0", x.one(0, 0), BAD);
        edge.is("SHEET 0 is nothing", x.count(5), NONE);
        for (int k = 0; k < 4; k++) {
            edge.is("SHEET " + k + " is nothing", x.lay(k, 0, 0), -11);
        }
        edge.is("THE TAPE is empty", x.count(4), 0);
        edge.is("text() of nothing", x.text(), 0);
        edge.is("no IMAGE", x.count(3), 0);
        edge.is("nothing is SEEN", x.count(2), 0);
        edge.is("one empty TABLE", x.books(), 1);
        edge.is("an empty ROTA", x.rota(0), 0);
        edge.is("none together", x.together(0), 0);
        edge.is("none together", x.together(1), 0);
        edge.is("nobody for himself", x.selfish(1), 0);
    }

    private static void feed() {
        edge.promise(2, "A byte (0 to 127) comes behind THE TAPE: how many it has.");
        QuotaLaws x = new QuotaLaws();
        edge.is("0", x.feed(0), 1);
        edge.is("127", x.feed(127), 2);
        edge.promise(2, "BAD; FULL: more than 160.");
        for (int c : new int[] {-1, 128, 255, 256, MIN, MAX}) {
            edge.is("feed(" + c + ")", x.feed(c), BAD);
            edge.is("how many", x.count(4), 2);
        }
        for (int i = 3; i <= 160; i++) {
            edge.is("the " + i + "th", x.feed(65), i);
        }
        edge.is("the 161st", x.feed(65), FULL);
        edge.is("the 161st", x.feed(0), FULL);
        edge.is("how many", x.count(4), 160);
        x.end(159);
        edge.is("the 160th", x.feed(65), 160);
        edge.is("the 161st", x.feed(65), FULL);
    }

    private static void end() {
        edge.promise(3, "THE TAPE keeps its first n bytes: how many it had. BAD.");
        QuotaLaws x = new QuotaLaws();
        edge.is("end(0) of none", x.end(0), 0);
        edge.is("end(1) of none", x.end(1), BAD);
        edge.is("end(-1) of none", x.end(-1), BAD);
        Due.feedAll(x, "law 1 1 1 1;law 2 1 1 1;");
        edge.is("one more than it has", x.end(25), BAD);
        edge.is("MAX", x.end(MAX), BAD);
        edge.is("MIN", x.end(MIN), BAD);
        edge.is("all", x.end(24), 24);
        edge.is("one less", x.end(23), 24);
        edge.is("what is gone does not come back", x.end(24), BAD);
        edge.is("the first 12", x.end(12), 23);
        edge.is("they tell one LAW", x.text(), 1);
        edge.is("the first", x.law(0, 0), 1);
        Due.feedAll(x, "?");
        edge.is("none", x.end(0), 1);
        edge.is("they tell nothing", x.text(), 0);
    }

    private static void text() {
        edge.promise(4, "THE TAPE (empty then) tells all: how many lines; -10 less the place of its FAULT: that which was told stays.");
        QuotaLaws x = new QuotaLaws();
        Due.feedAll(x, FIVE + THREE + "want 0 0;watch 0;");
        edge.is("ten lines", x.text(), 10);
        edge.is("empty then", x.count(4), 0);
        x.breaks(0, 1);
        Due.feedAll(x, LAW + ONE + "x");
        edge.is("place 24", x.text(), -34);
        edge.is("empty then too", x.count(4), 0);
        edge.is("LAWS stay", x.rule(0), 5);
        edge.is("PEOPLE stay", x.rule(1), 3);
        edge.is("what he WANTS stays", x.one(0, 5), 1);
        edge.is("WATCHED ones stay", x.rule(5), 1);
        edge.is("what is BROKEN stays", x.broken(0, 1), 1);
        Due.feedAll(x, "x");
        edge.is("place 0", x.text(), -10);
        edge.is("an empty TAPE", x.text(), 0);
        edge.is("no LAWS then", x.rule(0), 0);
        edge.is("nobody then", x.rule(1), 0);
        edge.is("once more", x.text(), 0);
    }

    private static void fault() {
        edge.promise(5, "The FAULT of the latest text(); 0.");
        QuotaLaws x = new QuotaLaws();
        edge.is("ahead of all", x.fault(), 0);
        String[] texts = {"?", ";", "watch 5;", "watch 0;watch 0;", FIVE + "law", "watch 0;"};
        for (int i = 0; i < texts.length; i++) {
            Due.feedAll(x, texts[i]);
            edge.is("THE TAPE alone has no FAULT", x.fault(), i);
            x.text();
            edge.is("FAULT " + (i + 1), x.fault(), i + 1);
            edge.is("asked again", x.fault(), i + 1);
        }
        x.keep(0);
        x.back(0);
        edge.is("no IMAGE keeps it", x.fault(), 6);
        x.text();
        edge.is("a text that is taken", x.fault(), 0);
    }

    private static void rule() {
        edge.promise(6, "0 LAWS, 1 PEOPLE, 2 YEAR, 3 DONE, 4 LAWS that STAND (bits), 5 WATCHED ones (bits). BAD.");
        QuotaLaws x = Due.told("law 1 1 4 0;law 0 1 0 0;law 0 1 0 0;one 1 1 1 1;one 1 1 1 1;watch 0;watch 2;");
        x.breaks(1, 0);
        x.year();
        x.year();
        int[] due = {3, 2, 2, 5, 6, 5};
        for (int what = 0; what < 6; what++) {
            edge.is("rule(" + what + ")", x.rule(what), due[what]);
        }
        for (int what : new int[] {-1, 6, MIN, MAX}) {
            edge.is("rule(" + what + ")", x.rule(what), BAD);
        }
    }

    private static void law() {
        edge.promise(7, "0 QUOTA, 1 CAP, 2 HARM, 3 FINE, 4 which it CARRIES (NONE), 5 NEED, 6 its CHAIN (bits). BAD.");
        QuotaLaws x = Due.told("law 9 3 8 7;law 6 1 5 4 0;one 5 0 0 0;");
        x.breaks(0, 0);
        x.breaks(0, 0);
        int[] first = {9, 3, 8, 7, NONE, 7, 1};
        int[] last = {6, 1, 5, 4, 0, 6, 3};
        for (int what = 0; what < 7; what++) {
            edge.is("law(0, " + what + ")", x.law(0, what), first[what]);
            edge.is("law(1, " + what + ")", x.law(1, what), last[what]);
            for (int l : new int[] {-1, 2, NONE, MIN, MAX}) {
                edge.is("law(" + l + ", " + what + ")", x.law(l, what), BAD);
            }
        }
        for (int what : new int[] {-1, 7, MIN, MAX}) {
            edge.is("law(0, " + what + ")", x.law(0, what), BAD);
        }
        edge.is("LAW 4 of five", Due.told(FIVE).law(4, 6), 16);
        edge.is("LAW 5 of five", Due.told(FIVE).law(5, 6), BAD);
    }

    private static void one() {
        edge.promise(8, "0 TIME, 1 CLUMSY, 2 NERVE, 3 PURSE, 4 what he REFUSES (bits), 5 what he WANTS (bits), 6 all that he BROKE, 7 LAWS that he CAN break (bits). BAD.");
        QuotaLaws x = Due.told("law 9 3 8 7;law 6 1 5 4;law 0 1 0 0;one 5 0 0 0;one 4 3 10 99 2;want 1 0;want 1 2;");
        x.breaks(1, 0);
        x.breaks(1, 0);
        x.breaks(1, 1);
        int[] due = {4, 3, 10, 99, 4, 5, 3, 1};
        for (int what = 0; what < 8; what++) {
            edge.is("one(1, " + what + ")", x.one(1, what), due[what]);
            for (int p : new int[] {-1, 2, MIN, MAX}) {
                edge.is("one(" + p + ", " + what + ")", x.one(p, what), BAD);
            }
        }
        for (int what : new int[] {-1, 8, MIN, MAX}) {
            edge.is("one(0, " + what + ")", x.one(0, what), BAD);
        }
        edge.is("he CAN, though FINE is above his PURSE", Due.told("law 0 1 0 9;one 1 0 0 0;watch 0;").one(0, 7), 1);
        edge.is("ONE 2 of three", Due.told(THREE).one(2, 0), 1);
        edge.is("ONE 3 of three", Due.told(THREE).one(3, 0), BAD);
        edge.is("no LAW that he CAN break", Due.told(THREE).one(2, 7), 0);
    }

    private static void broken() {
        edge.promise(9, "How often a ONE BROKE a LAW. BAD.");
        QuotaLaws x = Due.told("law 0 3 0 0;law 0 3 0 0;one 5 0 0 0;one 5 0 0 0;");
        edge.is("not yet", x.broken(1, 1), 0);
        x.breaks(1, 1);
        x.breaks(1, 1);
        x.breaks(1, 1);
        x.breaks(1, 1);
        edge.is("as often as CAP", x.broken(1, 1), 3);
        edge.is("the other LAW", x.broken(1, 0), 0);
        edge.is("the other ONE", x.broken(0, 1), 0);
        for (int w : new int[] {-1, 2, MIN, MAX}) {
            edge.is("broken(" + w + ", 0)", x.broken(w, 0), BAD);
            edge.is("broken(0, " + w + ")", x.broken(0, w), BAD);
        }
        x.year();
        edge.is("in a new YEAR", x.broken(1, 1), 0);
    }

    private static void quota() {
        edge.promise(10, "QUOTA of a LAW becomes v: what it was. BAD.");
        QuotaLaws x = Due.told(FIVE);
        edge.is("the most", x.quota(4, 9), 1);
        edge.is("above", x.quota(4, 10), BAD);
        edge.is("as it was", x.law(4, 0), 9);
        edge.is("the least", x.quota(4, 0), 9);
        edge.is("below", x.quota(4, -1), BAD);
        edge.is("as it was", x.law(4, 0), 0);
        edge.is("the others", x.law(3, 0), 1);
        edge.is("LAW 5", x.quota(5, 1), BAD);
        edge.is("LAW -1", x.quota(-1, 1), BAD);
        x.year();
        edge.is("of a LAPSED one too", x.quota(0, 5), 1);
        edge.is("of a LAPSED one too", x.law(0, 0), 5);
        edge.is("it STANDS no more for that", x.rule(4), 16);
    }

    private static void carry() {
        edge.promise(11, "A LAW CARRIES another one (NONE: none): which it was. BAD (also itself).");
        QuotaLaws x = Due.told(FIVE);
        edge.is("the last", x.carry(0, 4), NONE);
        edge.is("the first", x.carry(4, 0), NONE);
        edge.is("none", x.carry(0, NONE), 4);
        edge.is("none again", x.carry(0, NONE), NONE);
        for (int l = 0; l < 5; l++) {
            edge.is("itself " + l, x.carry(l, l), BAD);
        }
        for (int m : new int[] {-1, -2, -3, -5, 5, MIN, MAX}) {
            edge.is("carry(4, " + m + ")", x.carry(4, m), BAD);
            edge.is("carry(" + m + ", 4)", x.carry(m, 4), BAD);
        }
        edge.is("carry(NONE, 0)", x.carry(NONE, 0), BAD);
        edge.is("as it was", x.law(4, 4), 0);
        edge.is("as it was", x.law(0, 4), NONE);
    }

    private static void watch() {
        edge.promise(12, "A LAW is WATCHED, or not: whether it was. BAD.");
        QuotaLaws x = Due.told(FIVE);
        edge.is("LAW 4", x.watch(4, true), 0);
        edge.is("again", x.watch(4, true), 1);
        edge.is("bits", x.rule(5), 16);
        edge.is("no more", x.watch(4, false), 1);
        edge.is("no more again", x.watch(4, false), 0);
        edge.is("bits", x.rule(5), 0);
        for (int l : new int[] {-1, 5, 32, 36, MIN, MAX}) {
            edge.is("watch(" + l + ", true)", x.watch(l, true), BAD);
            edge.is("bits", x.rule(5), 0);
        }
    }

    private static void time() {
        edge.promise(13, "TIME of a ONE becomes v: what it was. BAD.");
        QuotaLaws x = Due.told(LAW + THREE);
        edge.is("the most", x.time(2, 5), 1);
        edge.is("above", x.time(2, 6), BAD);
        edge.is("as it was", x.one(2, 0), 5);
        x.breaks(2, 0);
        edge.is("the least, below all that he BROKE", x.time(2, 0), 5);
        edge.is("below", x.time(2, -1), BAD);
        edge.is("as it was", x.one(2, 0), 0);
        edge.is("what he BROKE stays", x.one(2, 6), 1);
        edge.is("ONE 3", x.time(3, 1), BAD);
        edge.is("ONE -1", x.time(-1, 1), BAD);
        edge.is("the others", x.one(1, 0), 1);
    }

    private static void refuse() {
        edge.promise(14, "A ONE REFUSES a LAW, or not: whether he did. BAD.");
        QuotaLaws x = Due.told(FIVE + THREE);
        for (int l = 0; l < 5; l++) {
            edge.is("LAW " + l, x.refuse(2, l, true), 0);
            edge.is("again", x.refuse(2, l, true), 1);
        }
        edge.is("all", x.one(2, 4), 31);
        edge.is("the others", x.one(1, 4), 0);
        edge.is("no more", x.refuse(2, 4, false), 1);
        edge.is("no more again", x.refuse(2, 4, false), 0);
        edge.is("all but one", x.one(2, 4), 15);
        for (int w : new int[] {-1, 5, 32, MIN, MAX}) {
            edge.is("LAW " + w, x.refuse(2, w, true), BAD);
            edge.is("ONE " + w, x.refuse(w, 0, true), BAD);
        }
        edge.is("ONE 3", x.refuse(3, 0, true), BAD);
        edge.is("as it was", x.one(2, 4), 15);
        x.breaks(0, 0);
        edge.is("what he BROKE already", x.refuse(0, 0, true), 0);
        edge.is("what he BROKE already stays", x.broken(0, 0), 1);
    }

    private static void want() {
        edge.promise(15, "A ONE WANTS a LAW, or not: whether he did. BAD.");
        QuotaLaws x = Due.told(FIVE + THREE);
        for (int l = 0; l < 5; l++) {
            edge.is("LAW " + l, x.want(2, l, true), 0);
            edge.is("again", x.want(2, l, true), 1);
        }
        edge.is("all", x.one(2, 5), 31);
        edge.is("the others", x.one(1, 5), 0);
        edge.is("REFUSED is another thing", x.one(2, 4), 0);
        edge.is("no more", x.want(2, 0, false), 1);
        edge.is("no more again", x.want(2, 0, false), 0);
        for (int w : new int[] {-1, 5, 32, MIN, MAX}) {
            edge.is("LAW " + w, x.want(2, w, true), BAD);
            edge.is("ONE " + w, x.want(w, 0, true), BAD);
        }
        edge.is("ONE 3", x.want(3, 0, true), BAD);
        edge.is("as it was", x.one(2, 5), 30);
    }

    private static void fund() {
        edge.promise(16, "PURSE of a ONE becomes v: what it was. BAD.");
        QuotaLaws x = Due.told(THREE);
        edge.is("the most", x.fund(2, 99), 1);
        edge.is("above", x.fund(2, 100), BAD);
        edge.is("as it was", x.one(2, 3), 99);
        edge.is("all PURSES", x.count(6), 101);
        edge.is("the least", x.fund(2, 0), 99);
        edge.is("below", x.fund(2, -1), BAD);
        edge.is("as it was", x.one(2, 3), 0);
        edge.is("ONE 3", x.fund(3, 1), BAD);
        edge.is("ONE -1", x.fund(-1, 1), BAD);
        edge.is("all PURSES", x.count(6), 2);
    }

    private static void revive() {
        edge.promise(17, "A LAW that has LAPSED STANDS again: how many STAND then. BAD; STATE: it STANDS.");
        QuotaLaws x = Due.told(FIVE);
        edge.is("it STANDS", x.revive(4), STATE);
        edge.is("LAW 5", x.revive(5), BAD);
        edge.is("LAW -1", x.revive(-1), BAD);
        x.year();
        for (int i = 1; i <= 5; i++) {
            edge.is("how many", x.revive(5 - i), i);
            edge.is("it STANDS", x.revive(5 - i), STATE);
        }
        edge.is("all", x.rule(4), 31);
        edge.is("NEED again", x.count(7), 5);
        QuotaLaws y = Due.told("law 1 1 1 1 1;law 1 1 1 1;");
        y.year();
        y.revive(0);
        edge.is("it alone, not its CHAIN", y.rule(4), 1);
    }

    private static void breaks() {
        edge.promise(18, "A BREAKING: the harm of it. BAD; STATE: he CAN not, or it is WATCHED and his PURSE is less than FINE; FULL: DONE would be more than 9999.");
        QuotaLaws x = Due.told("law 0 3 9 0;law 0 3 9 0;law 0 1 1 9;law 0 1 0 9;one 5 3 0 9;one 5 3 0 9;one 5 0 0 9 3;");
        for (int w : new int[] {-1, 4, MIN, MAX}) {
            edge.is("LAW " + w, x.breaks(0, w), BAD);
            edge.is("ONE " + w, x.breaks(w, 0), BAD);
        }
        edge.is("ONE 3", x.breaks(3, 0), BAD);
        x.sheet(0, 0, 20);
        for (int i = 0; i < 10; i++) {
            x.lay(0, 2 * i, i / 5);
            x.lay(0, 2 * i + 1, i % 5 / 3);
        }
        for (int year = 0; year < 83; year++) {
            edge.is("ten a YEAR, of 12 each", x.read(0, 0, 0, 10), 10);
            x.year();
        }
        edge.is("DONE", x.rule(3), 9960);
        edge.is("three of 12", x.read(0, 0, 0, 3), 3);
        edge.is("DONE", x.rule(3), 9996);
        edge.is("12 is too much", x.breaks(0, 1), FULL);
        edge.is("9 is too much", x.breaks(2, 0), FULL);
        edge.is("4: it would be 10000", x.breaks(0, 2), FULL);
        edge.is("nothing came", x.broken(0, 2) + x.broken(0, 1) + x.broken(2, 0), 0);
        edge.is("he CAN not, and it would be FULL", x.breaks(0, 0), STATE);
        x.watch(2, true);
        x.fund(0, 8);
        edge.is("his PURSE is less, and it would be FULL", x.breaks(0, 2), STATE);
        x.fund(0, 9);
        edge.is("his PURSE is as much, and it would be FULL", x.breaks(0, 2), FULL);
        edge.is("nothing was paid", x.one(0, 3), 9);
        edge.is("1: it is 9997", x.breaks(2, 2), 1);
        edge.is("3: it would be 10000", x.breaks(0, 3), FULL);
        edge.is("he REFUSES", x.breaks(2, 3), STATE);
        edge.is("DONE", x.rule(3), 9997);
        nineThousand();
    }

    /** To 9999 just: 9996 and 3. */
    private static void nineThousand() {
        QuotaLaws x = Due.told("law 0 3 9 0;law 0 3 0 0;one 5 3 0 9;one 5 0 0 9;");
        x.sheet(0, 0, 6);
        for (int year = 0; year < 277; year++) {
            x.read(0, 0, 0, 3);
            x.year();
        }
        edge.is("DONE", x.rule(3), 9972);
        edge.is("two of 12", x.read(0, 0, 0, 2), 2);
        edge.is("3: it is 9999", x.breaks(0, 1), 3);
        edge.is("DONE", x.rule(3), 9999);
        edge.is("3 more", x.breaks(0, 1), FULL);
        edge.is("0 more", x.breaks(1, 1), 0);
        edge.is("DONE", x.rule(3), 9999);
    }

    private static void year() {
        edge.promise(19, "A YEAR ends: LAWS that LAPSE (bits). FULL: it would be YEAR 1000.");
        QuotaLaws x = Due.told("law 1 1 1 1;law 2 1 1 1;law 1 1 1 1;law 0 1 1 1;law 1 1 1 1;one 5 1 1 1;one 5 1 1 1;");
        x.breaks(0, 0);
        x.breaks(0, 1);
        x.breaks(1, 2);
        x.breaks(0, 2);
        edge.is("1 of 2, none of 1", x.year(), 18);
        edge.is("YEAR 1", x.rule(2), 1);
        for (int i = 1; i < 998; i++) {
            x.year();
        }
        edge.is("YEAR 998", x.rule(2), 998);
        x.revive(4);
        edge.is("to YEAR 999", x.year(), 16);
        edge.is("YEAR 999", x.rule(2), 999);
        x.revive(4);
        x.breaks(0, 3);
        edge.is("FULL", x.year(), FULL);
        edge.is("YEAR 999", x.rule(2), 999);
        edge.is("what is BROKEN stays", x.broken(0, 3), 1);
        edge.is("none LAPSED", x.rule(4), 24);
        edge.is("what would LAPSE", x.falls(), 16);
        edge.is("FULL again", x.year(), FULL);
    }

    private static void falls() {
        edge.promise(20, "LAWS that would LAPSE, did the YEAR end now (bits).");
        QuotaLaws x = Due.told("law 1 1 0 0 1;law 0 1 0 0 2;law 0 1 0 0;law 2 2 0 0 2;law 0 1 0 0 0;one 5 0 0 0;");
        edge.is("all but LAW 4, which CARRIES but is not CARRIED", x.falls(), 15);
        edge.is("none has LAPSED", x.rule(4), 31);
        x.breaks(0, 0);
        edge.is("LAW 3 takes LAW 2", x.falls(), 12);
        x.breaks(0, 3);
        edge.is("once of twice", x.falls(), 12);
        x.breaks(0, 3);
        edge.is("twice of twice", x.falls(), 0);
        x.year();
        x.breaks(0, 0);
        edge.is("as year() then tells", x.falls(), x.year());
        edge.is("as year() then tells", x.rule(4), 19);
        edge.is("LAW 2, LAPSED, would not LAPSE again", x.falls(), 3);
        edge.is("none at all", new QuotaLaws().falls(), 0);
    }

    private static void most() {
        edge.promise(21, "The LAW of those that STAND whose CHAIN has most LAWS that STAND, of several the first (what 0), how many (1). BAD; NONE: none STANDS.");
        QuotaLaws x = Due.told("law 1 1 0 0;law 1 1 0 0;law 0 1 0 0 1;law 0 1 0 0 2;law 0 1 0 0;one 2 0 0 0;");
        edge.is("LAW 3 takes two", x.most(0), 3);
        edge.is("three with it", x.most(1), 3);
        x.carry(3, NONE);
        x.carry(4, 0);
        edge.is("of several the first", x.most(0), 2);
        edge.is("two", x.most(1), 2);
        x.breaks(0, 0);
        edge.is("LAW 1 falls", x.year(), 2);
        edge.is("LAW 1 does not STAND in that of LAW 2", x.most(0), 4);
        edge.is("two", x.most(1), 2);
        edge.is("LAW 0 falls", x.year(), 1);
        edge.is("each alone: the first", x.most(0), 2);
        edge.is("one", x.most(1), 1);
        for (int what : new int[] {-1, 2, MIN, MAX}) {
            edge.is("most(" + what + ")", x.most(what), BAD);
        }
        x.carry(0, 4);
        x.carry(4, 3);
        edge.is("LAW 0, LAPSED, is not of those", x.most(0), 4);
        for (int l = 2; l < 5; l++) {
            x.quota(l, 1);
        }
        x.year();
        edge.is("none STANDS", x.most(0), NONE);
        edge.is("none STANDS", x.most(1), NONE);
        edge.is("none STANDS, BAD first", x.most(2), BAD);
        edge.is("a ring of five", Due.told("law 1 1 0 0 1;law 1 1 0 0 2;law 1 1 0 0 3;law 1 1 0 0 4;law 1 1 0 0 0;").most(1), 5);
        edge.is("a ring of five: the first", Due.told("law 1 1 0 0 1;law 1 1 0 0 2;law 1 1 0 0 3;law 1 1 0 0 4;law 1 1 0 0 0;").most(0), 0);
    }
}
