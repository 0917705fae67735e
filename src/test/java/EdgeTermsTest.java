/** The sentences of "What it is" and "Terms" that name a bound, an empty or a full case, a wrap-around: a method for each. */
public final class EdgeTermsTest {
    private static final Edge edge = new Edge();
    private static final int BAD = QuotaLaws.BAD, STATE = QuotaLaws.STATE, FULL = QuotaLaws.FULL, NONE = QuotaLaws.NONE;
    private static final String LAW = "law 1 1 1 1;", ONE = "one 1 1 1 1;";
    private static final String FIVE = LAW + LAW + LAW + LAW + LAW, THREE = ONE + ONE + ONE;

    public static void main(String[] args) {
        fiveHundredCalls();
        theFirstThatFits();
        lowestTerms();
        fiveLaws();
        boundsOfLaws();
        carriedOrNone();
        standsAtFirst();
        threePeople();
        boundsOfPeople();
        zeroAtFirst();
        places();
        names();
        figures();
        blanks();
        linesOfText();
        linesOfLaws();
        linesOfPeople();
        linesOfWants();
        linesOfWatches();
        faultOrder();
        faultOne();
        faultTwo();
        faultThree();
        faultFour();
        faultFive();
        faultSix();
        inPlaceOfAll();
        canBreak();
        aBreaking();
        need();
        chains();
        aYearEnds();
        rotas();
        eachForHimself();
        tables();
        eightSeen();
        sheetRows();
        sheetFaults();
        edge.finish(0, 0);
    }

    private static void taken(String text, int lines) {
        QuotaLaws x = new QuotaLaws();
        Due.feedAll(x, text);
        edge.is("text() of " + text, x.text(), lines);
        edge.is("fault() of " + text, x.fault(), 0);
    }

    private static void faulty(String text, int fault, int place) {
        QuotaLaws x = new QuotaLaws();
        Due.feedAll(x, text);
        edge.is("text() of " + text, x.text(), -10 - place);
        edge.is("fault() of " + text, x.fault(), fault);
        edge.is("nothing is told by " + text, x.rule(0) + x.rule(1), 0);
    }

    private static void fiveHundredCalls() {
        edge.whatItIs("An object is used for at most 512 calls after it has been made; what later calls answer is free.");
        edge.is("the last call, year()", used511Times().year(), 1);
        edge.is("the last call, falls()", used511Times().falls(), 1);
        edge.is("the last call, rota(0)", used511Times().rota(0), 2);
        edge.is("the last call, breaks(0, 0)", used511Times().breaks(0, 0), 2);
        edge.is("the last call, books()", used511Times().books(), 2);
        edge.is("the last call, feed(59)", used511Times().feed(59), 1);
        edge.is("the last call, rule(2)", used511Times().rule(2), 243);
    }

    /** 24 bytes, text(), then 243 years at whose ends the law lapses, and is revived. */
    private static QuotaLaws used511Times() {
        QuotaLaws x = Due.told(LAW + ONE);
        for (int year = 0; year < 243; year++) {
            edge.is("year()", x.year(), 1);
            edge.is("revive(0)", x.revive(0), 1);
        }
        return x;
    }

    private static void theFirstThatFits() {
        edge.terms("the first that fits");
        QuotaLaws x = Due.told("law 1 1 1 1;law 0 1 1 1;one 1 1 1 1;");
        x.year();
        edge.is("BAD ahead of STATE: kill", x.kill(0, 2), BAD);
        edge.is("STATE ahead of NONE, though NEED is 0: kill", x.kill(0, 0), STATE);
        edge.is("NONE: kill", x.kill(1, 0), NONE);
        edge.is("BAD ahead of STATE: breaks", x.breaks(1, 0), BAD);
        edge.is("BAD ahead of a FAULT: sheet, k", x.sheet(4, 0, -1), BAD);
        edge.is("BAD ahead of a FAULT: sheet, lane", x.sheet(0, 3, -1), BAD);
        edge.is("BAD ahead of a FAULT: lay", x.lay(4, 0, 0), BAD);
        edge.is("BAD ahead of a FAULT: read, n", x.read(0, 0, 0, 21), BAD);
        edge.is("BAD ahead of STATE: wild", new QuotaLaws().wild(0, 61, 0), BAD);
        edge.is("BAD ahead of STATE: wild", new QuotaLaws().wild(0, 60, 2), BAD);
        edge.is("BAD ahead of NONE: most", new QuotaLaws().most(2), BAD);
        for (int i = 0; i < 160; i++) {
            x.feed(' ');
        }
        edge.is("BAD ahead of FULL: feed", x.feed(-1), BAD);
        edge.is("FULL: feed", x.feed(0), FULL);
        for (int i = 0; i < 8; i++) {
            x.see(0, 0, 2);
        }
        edge.is("BAD ahead of FULL: see", x.see(0, 1, 0), BAD);
        edge.is("FULL: see", x.see(0, 0, 0), FULL);
        edge.is("BAD ahead of NONE: entry", x.entry(0, 2, 0), BAD);
        edge.is("NONE: entry", x.entry(0, 0, 0), NONE);
    }

    private static void lowestTerms() {
        edge.terms("Fractions are in lowest terms, the denominator above 0 (0 is 0 by 1).");
        QuotaLaws x = Due.told("law 1 1 1 1;one 1 1 4 1;");
        edge.is("4 by 10", x.luck(0, 0), 2);
        edge.is("4 by 10", x.luck(0, 1), 5);
        x.quota(0, 2);
        edge.is("0", x.luck(0, 0), 0);
        edge.is("0 by 1", x.luck(0, 1), 1);
        x.quota(0, 0);
        edge.is("1", x.luck(0, 0), 1);
        edge.is("1 by 1", x.luck(0, 1), 1);
    }

    private static void fiveLaws() {
        edge.terms("LAWS (5 at most, by order)");
        taken("law 0 1 1 1;law 1 1 1 1;law 2 1 1 1;law 3 1 1 1;", 4);
        QuotaLaws x = Due.told("law 5 1 1 1;law 6 1 1 1;law 7 1 1 1;law 8 1 1 1;law 9 1 1 1;");
        edge.is("five", x.rule(0), 5);
        for (int l = 0; l < 5; l++) {
            edge.is("by order " + l, x.law(l, 0), 5 + l);
        }
        edge.is("no sixth", x.law(5, 0), BAD);
        faulty(FIVE + LAW, 5, 60);
        taken("", 0);
        edge.is("none", new QuotaLaws().rule(0), 0);
    }

    private static void boundsOfLaws() {
        edge.terms("each with a QUOTA (0 to 9), a CAP (1 to 3), HARM (0 to 9), a FINE (0 to 9)");
        int[] least = {0, 1, 0, 0};
        int[] most = {9, 3, 9, 9};
        for (int what = 0; what < 4; what++) {
            edge.is("the least of " + what, Due.told(lawWith(what, least[what])).law(0, what), least[what]);
            edge.is("the most of " + what, Due.told(lawWith(what, most[what])).law(0, what), most[what]);
            faulty(lawWith(what, most[what] + 1), 3, 4 + 2 * what);
            faulty(lawWith(what, 99), 3, 4 + 2 * what);
        }
        faulty(lawWith(1, 0), 3, 6);
        faulty("law -1 1 1 1;", 1, 4);
    }

    private static String lawWith(int what, int v) {
        StringBuilder text = new StringBuilder("law");
        for (int i = 0; i < 4; i++) {
            text.append(' ').append(i == what ? v : 1);
        }
        return text.append(';').toString();
    }

    private static void carriedOrNone() {
        edge.terms("it CARRIES another LAW or none");
        QuotaLaws x = Due.told("law 1 1 1 1 4;law 1 1 1 1;law 1 1 1 1;law 1 1 1 1;law 1 1 1 1 0;");
        edge.is("the last", x.law(0, 4), 4);
        edge.is("none", x.law(1, 4), NONE);
        edge.is("the first", x.law(4, 4), 0);
        faulty("law 1 1 1 1 5;", 3, 12);
        faulty("law 1 1 1 1 0;", 4, 12);
    }

    private static void standsAtFirst() {
        edge.terms("it STANDS (at first) or has LAPSED, it is WATCHED or not");
        QuotaLaws x = Due.told(FIVE + "watch 0;watch 4;");
        edge.is("all STAND", x.rule(4), 31);
        edge.is("two are WATCHED", x.rule(5), 17);
        edge.is("none is WATCHED", Due.told(FIVE).rule(5), 0);
        edge.is("all are WATCHED", Due.told(FIVE + "watch 0;watch 1;watch 2;watch 3;watch 4;").rule(5), 31);
    }

    private static void threePeople() {
        edge.terms("PEOPLE (3 at most, by order)");
        taken(ONE + ONE, 2);
        QuotaLaws x = Due.told("one 3 1 1 1;one 4 1 1 1;one 5 1 1 1;");
        edge.is("three", x.rule(1), 3);
        for (int p = 0; p < 3; p++) {
            edge.is("by order " + p, x.one(p, 0), 3 + p);
        }
        edge.is("no fourth", x.one(3, 0), BAD);
        faulty(THREE + ONE, 5, 36);
        edge.is("nobody", Due.told(LAW).rule(1), 0);
    }

    private static void boundsOfPeople() {
        edge.terms("each a ONE with TIME (0 to 5), CLUMSY (0 to 3), NERVE (0 to 10), a PURSE (0 to 99)");
        int[] most = {5, 3, 10, 99};
        for (int what = 0; what < 4; what++) {
            edge.is("the least of " + what, Due.told(oneWith(what, 0)).one(0, what), 0);
            edge.is("the most of " + what, Due.told(oneWith(what, most[what])).one(0, what), most[what]);
            faulty(oneWith(what, most[what] + 1), what == 3 ? 1 : 3, 4 + 2 * what);
        }
    }

    private static String oneWith(int what, int v) {
        return lawWith(what, v).replace("law", "one");
    }

    private static void zeroAtFirst() {
        edge.terms("YEAR (0 at first). DONE: all harm (0 at first).");
        QuotaLaws x = new QuotaLaws();
        edge.is("YEAR of a new object", x.rule(2), 0);
        edge.is("DONE of a new object", x.rule(3), 0);
        x = Due.told("law 0 1 9 0;one 1 3 0 0;");
        edge.is("YEAR", x.rule(2), 0);
        edge.is("DONE", x.rule(3), 0);
        x.breaks(0, 0);
        x.year();
        edge.is("YEAR", x.rule(2), 1);
        edge.is("DONE is kept by the new YEAR", x.rule(3), 12);
    }

    private static void places() {
        edge.terms("THE TAPE has 160 bytes, places from 0.");
        faulty("?", 1, 0);
        faulty(" ?", 1, 1);
        faulty(" ".repeat(159) + "?", 1, 159);
        faulty(" ".repeat(157) + "law", 2, 160);
        faulty(" ".repeat(152) + "watch 0;", 6, 160);
        taken(" ".repeat(160), 0);
        taken(" ".repeat(148) + LAW, 1);
        taken(LAW + " ".repeat(148), 1);
        QuotaLaws x = new QuotaLaws();
        Due.feedAll(x, LAW + " ".repeat(148) + "?");
        edge.is("what is FULL does not come", x.text(), 1);
    }

    private static void names() {
        edge.terms("NAMES (a .. z)");
        faulty("a", 2, 0);
        faulty("z", 2, 0);
        faulty("" + (char) ('a' - 1), 1, 0);
        faulty("" + (char) ('z' + 1), 1, 0);
        faulty("A", 1, 0);
        faulty("Z", 1, 0);
        faulty("LAW 1 1 1 1;", 1, 0);
        edge.terms("TOKENS, each as long as may be");
        faulty("lawone 1 1 1 1;", 2, 0);
        faulty("lawlaw 1 1 1 1;", 2, 0);
        faulty("aaw 1 1 1 1;", 2, 0);
        faulty("lab 1 1 1 1;", 2, 0);
        faulty("lawa 1 1 1 1;", 2, 0);
        faulty("lawz 1 1 1 1;", 2, 0);
        faulty("law` 1 1 1 1;", 1, 3);
        faulty("law{ 1 1 1 1;", 1, 3);
        faulty("l aw 1 1 1 1;", 2, 0);
        faulty("la", 2, 0);
        faulty("laws", 2, 0);
        faulty("watc 0;", 2, 0);
        faulty("watchs 0;", 2, 0);
        faulty("wan 0 0;", 2, 0);
        faulty("ones 0 0 0 0;", 2, 0);
        taken("law1 1 1 1;one1 1 1 1;want0 0;watch0;", 4);
        faulty("law 1 1 1 1one", 2, 11);
        faulty("law 11 1 1;", 3, 4);
    }

    private static void figures() {
        edge.terms("NUMBERS (1 or 2 figures)");
        taken("law 1 1 1 1;", 1);
        taken("law 01 01 09 00;", 1);
        edge.is("07", Due.told("law 07 1 1 1;").law(0, 0), 7);
        edge.is("10", Due.told("one 1 1 10 1;").one(0, 2), 10);
        faulty("law 001 1 1 1;", 1, 4);
        faulty("one 1 1 1 000;", 1, 10);
        faulty("law 1 1 1 1 000;", 1, 12);
        faulty("watch 00000000000000000000;", 1, 6);
        faulty("law 4294967297 1 1 1;", 1, 4);
        faulty("/", 1, 0);
        faulty("0", 2, 0);
        faulty("9", 2, 0);
        faulty(":", 1, 0);
        edge.terms("one ;");
        faulty(";", 2, 0);
        faulty("<", 1, 0);
    }

    private static void blanks() {
        edge.terms("blanks (32) between");
        taken("   law   1   1   1   1   ;   ", 1);
        for (int c = 0; c < 128; c++) {
            String text = "law 1 1 1 1" + (char) c + ";";
            if (c == 32) {
                taken(text, 1);
            } else if (c == ';') {
                faulty(text, 2, 12);
            } else if (c >= '0' && c <= '9') {
                // A FINE of 10 to 19.
                faulty(text, 3, 10);
            } else if (c >= 'a' && c <= 'z') {
                faulty(text, 2, 11);
            } else {
                faulty(text, 1, 11);
            }
        }
    }

    private static void linesOfText() {
        edge.terms("text: { line }");
        taken("", 0);
        taken(LAW, 1);
        taken("law0 1 0 0;law0 1 0 0;law0 1 0 0;law0 1 0 0;law0 1 0 0;one0 0 0 0;one0 0 0 0;watch0;watch1;watch2;watch3;watch4;want0 0;want0 1;want0 2;", 15);
        faulty(LAW + ";", 2, 12);
    }

    private static void linesOfLaws() {
        edge.terms("law N N N N [ N ] ;");
        faulty("law;", 2, 3);
        faulty("law 1 1 1;", 2, 9);
        taken("law 1 1 1 1;", 1);
        taken("law 1 1 1 1 1;" + LAW, 2);
        faulty("law 1 1 1 1 1 1;", 2, 14);
        faulty("law 1 1 1 1 1", 2, 13);
        faulty("law 1 1 1 1 1 x;", 2, 14);
        faulty("law 1 1 1 1 x;", 2, 12);
        faulty("law 1 1 1 1", 2, 11);
        faulty("law 1 1 1 x;", 2, 10);
        faulty("law 1 1 1", 2, 9);
    }

    private static void linesOfPeople() {
        edge.terms("one N N N N { N } ;");
        faulty("one;", 2, 3);
        faulty("one 1 1 1;", 2, 9);
        edge.is("he REFUSES none", Due.told(FIVE + "one 1 1 1 1;").one(0, 4), 0);
        edge.is("he REFUSES the first", Due.told(FIVE + "one 1 1 1 1 0;").one(0, 4), 1);
        edge.is("he REFUSES the last", Due.told(FIVE + "one 1 1 1 1 4;").one(0, 4), 16);
        edge.is("he REFUSES all", Due.told(FIVE + "one 1 1 1 1 4 2 0 1 3;").one(0, 4), 31);
        edge.is("a line for himself", Due.told(FIVE + "one 1 1 1 1 4;one 1 1 1 1 4;").one(1, 4), 16);
        faulty("one 1 1 1 1 0 1 2 3 4 0;", 4, 22);
        faulty("one 1 1 1 1 0 1 2 3 4 5;", 3, 22);
        faulty("one 1 1 1 1 0 1 2 3 4", 2, 21);
        faulty("one 1 1 1 1 0 x;", 2, 14);
        faulty("one 1 1 1 1 5;", 3, 12);
    }

    private static void linesOfWants() {
        edge.terms("want: a ONE (0 to 2), a LAW (0 to 4) that he WANTS.");
        QuotaLaws x = Due.told(FIVE + THREE + "want 2 4;want 0 0;want 2 0;");
        edge.is("the first", x.one(0, 5), 1);
        edge.is("none", x.one(1, 5), 0);
        edge.is("the last", x.one(2, 5), 17);
        faulty("want 3 0;", 3, 5);
        faulty("want 0 5;", 3, 7);
        faulty("want;", 2, 4);
        faulty("want 0;", 2, 6);
        faulty("want 0 0 0;", 2, 9);
        faulty("want 0 0", 2, 8);
        faulty("want x 0;", 2, 5);
    }

    private static void linesOfWatches() {
        edge.terms("watch: a LAW that is WATCHED.");
        edge.is("the last", Due.told("watch 4;" + FIVE).rule(5), 16);
        faulty("watch 5;", 3, 6);
        faulty("watch;", 2, 5);
        faulty("watch 0 0;", 2, 8);
        faulty("watch 0", 2, 7);
        faulty("watch watch;", 2, 6);
    }

    private static void faultOrder() {
        edge.terms("FAULTS, the first met as it is read (a TOKEN is read when the one before has been taken)");
        faulty("law 10?", 3, 4);
        faulty("law 1?", 1, 5);
        faulty("law 10 123", 3, 4);
        faulty("law ;?", 2, 4);
        faulty("laws?", 2, 0);
        faulty("watch 0;watch 0?", 4, 14);
        faulty("law 1 1 1 1 0?", 4, 12);
        faulty("one 1 1 1 1 1 1?", 4, 14);
        faulty("want 0 0;want 0 0?", 4, 16);
        faulty(FIVE + "law?", 5, 60);
        faulty(THREE + "one 9", 5, 36);
        faulty("watch 0;?", 1, 8);
        faulty("watch 0;x", 2, 8);
        faulty("watch 0;watch 5;", 3, 14);
        faulty("want 0 0;watch 0;" + THREE + ONE, 5, 53);
        faulty("one 1 1 1 1 5 5;", 3, 12);
    }

    private static void faultOne() {
        edge.terms("1 no TOKEN, a NUMBER that is too long (its first byte).");
        faulty("   123;", 1, 3);
        faulty("law 1 1 1 1;  #", 1, 14);
        faulty("law 99 1 1 1;", 3, 4);
        faulty("law 100 1 1 1;", 1, 4);
        faulty("\0", 1, 0);
        faulty("" + (char) 127, 1, 0);
    }

    private static void faultTwo() {
        edge.terms("2 a TOKEN that can not stand there (a NAME that begins no line; or the end: the length).");
        faulty("lay 1 1 1 1;", 2, 0);
        faulty(LAW + "  lay", 2, 14);
        faulty("law", 2, 3);
        faulty("law   ", 2, 6);
        faulty("law 1 1 1 1 ", 2, 12);
        faulty("one 1 1 1 1 1 ", 2, 14);
        faulty("12", 2, 0);
    }

    private static void faultThree() {
        edge.terms("3 a NUMBER out of its bounds.");
        faulty("law 9 3 9 10;", 3, 10);
        faulty("one 5 3 11 0;", 3, 8);
        taken("law 9 3 9 9;one 5 3 10 99;", 2);
    }

    private static void faultFour() {
        edge.terms("4 a LAW that is REFUSED in this line already, WANTED by that ONE already, WATCHED already (it); a LAW that CARRIES itself (it).");
        faulty("one 0 0 0 0 2 02;", 4, 14);
        taken(LAW + "one 0 0 0 0 0;one 0 0 0 0 0;", 3);
        faulty("want 0 4;want 0 4;", 4, 16);
        taken(FIVE + THREE + "want 0 4;want 1 4;want 0 3;", 11);
        faulty("watch 4;watch 4;", 4, 14);
        taken(FIVE + "watch 4;watch 3;", 7);
        faulty(LAW + LAW + LAW + LAW + "law 1 1 1 1 4;", 4, 60);
        taken(LAW + LAW + LAW + LAW + "law 1 1 1 1 3;", 5);
        taken("law 1 1 1 1 1;law 1 1 1 1 0;", 2);
        QuotaLaws x = Due.told(FIVE + ONE + "want 0 4;watch 4;");
        Due.feedAll(x, FIVE + ONE + "want 0 4;watch 4;");
        edge.is("of an earlier text none is WANTED, WATCHED", x.text(), 8);
    }

    private static void faultFive() {
        edge.terms("5 the 6th law, the 4th one (its NAME).");
        taken(FIVE + THREE, 8);
        faulty(FIVE + THREE + " law", 5, 97);
        faulty(FIVE + THREE + "one", 5, 96);
        faulty(THREE + FIVE + "  one", 5, 98);
        faulty(FIVE + "laws", 2, 60);
        QuotaLaws x = Due.told(FIVE + THREE);
        Due.feedAll(x, FIVE + THREE);
        edge.is("those of an earlier text do not count", x.text(), 8);
    }

    private static void faultSix() {
        edge.terms("Behind all (the length): 6 a LAW, a ONE that there is not.");
        faulty("law 1 1 1 1 1;", 6, 14);
        faulty("law 1 1 1 1 2;" + LAW + "  ", 6, 28);
        taken("law 1 1 1 1 2;" + LAW + LAW, 3);
        faulty("one 1 1 1 1 0;", 6, 14);
        faulty(LAW + "one 1 1 1 1 1;", 6, 26);
        taken("one 1 1 1 1 1;" + LAW + LAW, 3);
        faulty(LAW + ONE + "want 1 0;", 6, 33);
        faulty(LAW + ONE + "want 0 1;", 6, 33);
        taken("want 0 0;" + LAW + ONE, 3);
        faulty("want 0 0;" + LAW, 6, 21);
        faulty("want 0 0;" + ONE, 6, 21);
        faulty(LAW + "watch 1;", 6, 20);
        taken("watch 0;" + LAW, 2);
        QuotaLaws x = Due.told(LAW + ONE);
        Due.feedAll(x, "want 0 0;");
        edge.is("those of an earlier text are not there", x.text(), -19);
    }

    private static void inPlaceOfAll() {
        edge.terms("A text that is taken tells all, in place of what there was; nothing is BROKEN, SEEN; IMAGES are gone.");
        for (String text : new String[] {"", FIVE + THREE}) {
            QuotaLaws x = Due.told("law 2 2 2 2 1;law 0 1 1 1;one 2 2 2 2 1;want 0 1;watch 1;");
            x.breaks(0, 0);
            x.year();
            x.revive(0);
            x.breaks(0, 0);
            x.see(0, 0, 20);
            x.keep(0);
            x.keep(1);
            x.sheet(0, 0, 3);
            Due.feedAll(x, text);
            edge.is("text()", x.text(), text.isEmpty() ? 0 : 8);
            edge.is("LAWS", x.rule(0), text.isEmpty() ? 0 : 5);
            edge.is("PEOPLE", x.rule(1), text.isEmpty() ? 0 : 3);
            edge.is("YEAR", x.rule(2), 0);
            edge.is("DONE", x.rule(3), 0);
            edge.is("STAND", x.rule(4), text.isEmpty() ? 0 : 31);
            edge.is("WATCHED", x.rule(5), 0);
            edge.is("BROKEN", x.count(1), 0);
            edge.is("SEEN", x.count(2), 0);
            edge.holds("tables fit", x.books() > 0);
            edge.is("IMAGES", x.count(3), 0);
            edge.is("back(0)", x.back(0), STATE);
            edge.is("back(1)", x.back(1), STATE);
            edge.is("keep(0)", x.keep(0), 0);
            edge.is("TAPE", x.count(4), 0);
            edge.is("a SHEET is not of the text", x.count(5), 3);
            for (int p = 0; p < x.rule(1); p++) {
                edge.is("REFUSES", x.one(p, 4), 0);
                edge.is("WANTS", x.one(p, 5), 0);
                edge.is("BROKE", x.one(p, 6), 0);
            }
            for (int l = 0; l < x.rule(0); l++) {
                edge.is("CARRIES", x.law(l, 4), NONE);
            }
        }
    }

    private static void canBreak() {
        edge.terms("A ONE CAN break a LAW that STANDS, that he does not REFUSE, that he BROKE less often than its CAP, "
                + "if all that he BROKE in this YEAR is less than his TIME.");
        QuotaLaws x = Due.told("law 0 2 0 0;law 0 3 0 0;law 1 1 0 0;one 5 0 0 0 1;one 5 0 0 0;");
        edge.is("all but what he REFUSES", x.one(0, 7), 5);
        x.breaks(0, 0);
        edge.is("once of CAP 2", x.one(0, 7), 5);
        x.breaks(0, 0);
        edge.is("twice of CAP 2", x.one(0, 7), 4);
        edge.is("at CAP", x.breaks(0, 0), STATE);
        edge.is("the CAP of another", x.one(1, 7), 7);
        x.time(0, 3);
        edge.is("2 of TIME 3", x.one(0, 7), 4);
        x.time(0, 2);
        edge.is("2 of TIME 2", x.one(0, 7), 0);
        x.time(0, 1);
        edge.is("2 of TIME 1", x.one(0, 7), 0);
        x.refuse(0, 1, false);
        x.time(0, 3);
        edge.is("he REFUSES no more", x.one(0, 7), 6);
        x.time(1, 0);
        edge.is("TIME 0", x.one(1, 7), 0);
        edge.is("LAW 2 lapses", x.year(), 4);
        edge.is("in a new YEAR all but the LAPSED one", x.one(0, 7), 3);
        edge.is("LAPSED", x.breaks(0, 2), STATE);
        x.revive(2);
        edge.is("it STANDS again", x.one(0, 7), 7);
        edge.is("it STANDS again", x.breaks(0, 2), 0);
    }

    private static void aBreaking() {
        edge.terms("A BREAKING: he does; DONE is more by HARM and CLUMSY; if it is WATCHED, his PURSE is less by FINE (it must be as much).");
        QuotaLaws x = Due.told("law 0 3 9 9;law 0 3 0 0;one 5 3 0 8;one 5 0 0 0;watch 0;watch 1;");
        edge.is("PURSE 8, FINE 9", x.breaks(0, 0), STATE);
        edge.is("nothing is BROKEN", x.broken(0, 0), 0);
        x.fund(0, 9);
        edge.is("PURSE 9, FINE 9", x.breaks(0, 0), 12);
        edge.is("PURSE 0", x.one(0, 3), 0);
        edge.is("DONE", x.rule(3), 12);
        edge.is("BROKEN", x.broken(0, 0), 1);
        edge.is("PURSE 0, FINE 9", x.breaks(0, 0), STATE);
        edge.is("PURSE 0, FINE 0", x.breaks(0, 1), 3);
        edge.is("harm 0", x.breaks(1, 1), 0);
        edge.is("DONE", x.rule(3), 15);
        x.watch(0, false);
        edge.is("not WATCHED", x.breaks(0, 0), 12);
        x.watch(0, true);
        x.fund(0, 10);
        edge.is("PURSE 10, FINE 9", x.breaks(0, 0), 12);
        edge.is("PURSE 1", x.one(0, 3), 1);
        edge.is("the PURSE of the other", x.one(1, 3), 0);
    }

    private static void need() {
        edge.terms("NEED of a LAW that STANDS: its QUOTA less how often it was BROKEN by all, 0 at least (LAPSED: 0).");
        QuotaLaws x = Due.told("law 2 3 0 0;law 9 3 0 0;one 5 0 0 0;one 5 0 0 0;");
        edge.is("2", x.law(0, 5), 2);
        x.breaks(0, 0);
        edge.is("1", x.law(0, 5), 1);
        x.breaks(1, 0);
        edge.is("0", x.law(0, 5), 0);
        x.breaks(1, 0);
        edge.is("0 at least", x.law(0, 5), 0);
        x.quota(0, 0);
        edge.is("0 at least", x.law(0, 5), 0);
        edge.is("all NEED is not less for it", x.count(7), 9);
        x.year();
        edge.is("LAPSED: 0", x.law(1, 5), 0);
        edge.is("its QUOTA", x.law(1, 0), 9);
        x.revive(1);
        edge.is("it STANDS again", x.law(1, 5), 9);
    }

    private static void chains() {
        edge.terms("CHAIN of a LAW: it, the one it CARRIES, the one that one CARRIES, and so on.");
        QuotaLaws x = Due.told("law 0 1 0 0 1;law 0 1 0 0 2;law 0 1 0 0 3;law 0 1 0 0 4;law 0 1 0 0;");
        int[] line = {31, 30, 28, 24, 16};
        int[] tail = {31, 30, 28, 28, 28};
        for (int l = 0; l < 5; l++) {
            edge.is("a line, LAW " + l, x.law(l, 6), line[l]);
        }
        x.carry(4, 0);
        for (int l = 0; l < 5; l++) {
            edge.is("a ring of all, LAW " + l, x.law(l, 6), 31);
        }
        x.carry(4, 2);
        for (int l = 0; l < 5; l++) {
            edge.is("a tail that runs into a ring, LAW " + l, x.law(l, 6), tail[l]);
        }
        x.carry(4, 3);
        edge.is("a ring of two", x.law(3, 6), 24);
        edge.is("a ring of two", x.law(4, 6), 24);
        x.carry(0, NONE);
        edge.is("it alone", x.law(0, 6), 1);
    }

    private static void aYearEnds() {
        edge.terms("A YEAR ends: all LAWS that STAND and of which NEED is not 0 LAPSE, with all of their CHAINS. Then nothing is BROKEN, YEAR is 1 more.");
        QuotaLaws x = Due.told("law 1 1 0 0 1;law 0 1 0 0 2;law 0 1 0 0 0;law 1 1 0 0;law 0 1 0 0 3;one 5 0 0 0;");
        x.breaks(0, 3);
        edge.is("a ring falls whole", x.year(), 7);
        edge.is("the others STAND", x.rule(4), 24);
        edge.is("nothing is BROKEN", x.count(1), 0);
        edge.is("YEAR", x.rule(2), 1);
        edge.is("who CARRIES one that falls does not fall", x.year(), 8);
        edge.is("LAW 4 STANDS", x.rule(4), 16);
        edge.is("none has NEED", x.year(), 0);
        edge.is("YEAR", x.rule(2), 3);
        x.revive(0);
        x.revive(2);
        edge.is("through LAW 1, which has LAPSED already", x.year(), 5);
        x.revive(1);
        edge.is("LAW 0, LAPSED, has no NEED", x.year(), 0);
        edge.is("STAND", x.rule(4), 18);
    }

    private static void rotas() {
        edge.terms("so that each LAW is broken just NEED times more, each by those who CAN (of FINES nobody thinks).");
        QuotaLaws x = Due.told("law 3 3 1 9;law 0 3 0 9;one 3 0 0 0;one 0 0 0 0;watch 0;watch 1;");
        edge.is("no PURSE is asked", x.rota(0), 3);
        edge.is("just NEED times", x.rota(10), 3);
        edge.is("NEED 0: not at all", x.rota(13), 0);
        x.time(0, 2);
        edge.is("TIME 2 of 3", x.rota(0), NONE);
        x.time(1, 1);
        edge.is("with another's TIME", x.rota(0), 3);
        x.refuse(1, 0, true);
        edge.is("he REFUSES", x.rota(0), NONE);
        edge.terms("Of several the first is that of fewest breakings by ONE 0 of LAW 0, then by ONE 1 of LAW 0, and so on, LAW by LAW.");
        QuotaLaws y = Due.told("law 2 2 1 0;law 2 2 1 0;one 5 0 0 0;one 1 0 0 0;one 2 0 0 0;");
        int[] first = {0, 0, 2, 1, 1, 0};
        for (int i = 0; i < 6; i++) {
            edge.is("rota(" + (10 + i) + ")", y.rota(10 + i), first[i]);
        }
        edge.is("the least harm", y.rota(0), 4);
    }

    private static void eachForHimself() {
        edge.terms("he breaks, of LAWS that he WANTS, CAN break (of FINES nobody thinks) and of which NEED is not 0, the one with most NEED, of several the first; till in a round nobody does.");
        QuotaLaws x = Due.told("law 2 2 1 9;law 2 2 2 9;law 3 3 4 9;one 1 0 0 0;want 0 0;want 0 1;watch 0;");
        edge.is("of several the first", x.selfish(2), 1);
        x.want(0, 2, true);
        edge.is("the one with most NEED", x.selfish(2), 4);
        x.quota(2, 0);
        edge.is("NEED is not 0", x.selfish(2), 1);
        x.time(0, 5);
        edge.is("till nobody does: NEED", x.selfish(1), 4);
        x.time(0, 3);
        edge.is("till nobody does: TIME", x.selfish(1), 3);
        x.time(0, 0);
        edge.is("nobody CAN", x.selfish(1), 0);
        x.time(0, 5);
        x.refuse(0, 1, true);
        edge.is("he REFUSES", x.selfish(2), 2);
        x.want(0, 0, false);
        edge.is("he WANTS what he REFUSES alone", x.selfish(1), 0);
    }

    private static void tables() {
        edge.terms("no LAW more often than its CAP by each, none that he REFUSES, no more in all than his TIME.");
        QuotaLaws x = Due.told("law 0 3 0 0;law 0 1 0 0;one 5 0 0 0;");
        edge.is("4 times 2", x.books(), 8);
        x.time(0, 4);
        edge.is("TIME for all", x.books(), 8);
        x.time(0, 3);
        edge.is("not 3 and 1", x.books(), 7);
        x.time(0, 0);
        edge.is("nothing at all", x.books(), 1);
        x.time(0, 5);
        x.refuse(0, 0, true);
        edge.is("LAW 1 alone", x.books(), 2);
        x.refuse(0, 1, true);
        edge.is("he REFUSES all", x.books(), 1);
        edge.terms("A TABLE FITS, if all that was SEEN is so.");
        x.refuse(0, 0, false);
        x.see(0, 0, 3);
        edge.is("just 3", x.books(), 1);
        x.see(1, 0, 3);
        edge.is("by him", x.books(), 1);
        x.see(1, 1, 1);
        edge.is("more than there can be", x.books(), 0);
    }

    private static void eightSeen() {
        edge.terms("SEEN (8)");
        QuotaLaws x = Due.told(LAW + ONE);
        for (int i = 1; i <= 8; i++) {
            edge.is("see " + i, x.see(0, 0, 1), i);
        }
        edge.is("see 9", x.see(0, 0, 0), FULL);
        edge.is("what is FULL is not SEEN", x.books(), 1);
        edge.is("forget(7)", x.forget(7), 8);
        edge.is("room for one", x.see(0, 0, 0), 8);
        edge.is("the eighth is asked too", x.books(), 0);
    }

    private static void sheetRows() {
        edge.terms("SHEETS 0 to 3 are rows of BYTES (lane 0), SHORTS (1), INTS (2) with 0 to 40 CELLS, or nothing (at first).");
        QuotaLaws x = new QuotaLaws();
        for (int k = 0; k < 4; k++) {
            edge.is("nothing at first: " + k, x.lay(k, 0, 0), -11);
            for (int lane = 0; lane < 3; lane++) {
                edge.is("40 CELLS", x.sheet(k, lane, 40), 1);
                edge.is("CELL 39", x.lay(k, 39, 0), 1);
                edge.is("CELL 40", x.lay(k, 40, 0), -12);
                edge.is("CELL 0", x.lay(k, 0, 0), 1);
                edge.is("CELL -1", x.lay(k, -1, 0), -12);
                edge.is("0 CELLS", x.sheet(k, lane, 0), 1);
                edge.is("CELL 0 of none", x.lay(k, 0, 0), -12);
                edge.is("41 CELLS", x.sheet(k, lane, 41), BAD);
            }
        }
        edge.is("SHEET 4", x.sheet(4, 0, 1), BAD);
        edge.is("SHEET -1", x.sheet(-1, 0, 1), BAD);
        edge.is("lane 3", x.sheet(0, 3, 1), BAD);
        edge.is("lane -1", x.sheet(0, -1, 1), BAD);
    }

    private static void sheetFaults() {
        edge.terms("A FAULT is what the machine finds: 1 NULL (nothing), 2 INDEX, 3 CAST (another lane), 4 SIZE (below 0).");
        QuotaLaws x = new QuotaLaws();
        edge.is("SIZE -1", x.sheet(0, 0, -1), -14);
        edge.is("SIZE 0", x.sheet(1, 0, 0), 1);
        edge.is("read NULL", x.read(0, 0, 0, 1), 0);
        edge.is("NULL", x.torn(), 1);
        edge.is("read INDEX", x.read(1, 0, 0, 1), 0);
        edge.is("INDEX", x.torn(), 2);
        edge.is("read CAST", x.read(1, 1, 0, 1), 0);
        edge.is("CAST", x.torn(), 3);
        for (int lane = 0; lane < 3; lane++) {
            x.sheet(2, lane, 2);
            for (int as = 0; as < 3; as++) {
                edge.is("no LAW, or CAST", x.read(2, as, 0, 1), as == lane ? -20 : 0);
                edge.is("of none", x.read(2, as, 0, 0), 0);
                edge.is("CAST", x.torn(), as == lane ? 0 : 3);
            }
        }
    }
}
