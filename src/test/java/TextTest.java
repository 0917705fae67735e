/** Promises 1 to 9: a new object, THE TAPE, the text and its FAULTS, what is told. */
public final class TextTest {
    private static final Due due = new Due();

    public static void main(String[] args) {
        newObject();
        tape();
        textsThatAreTaken();
        faults();
        whatStaysAndWhatGoes();
        rules();
        lawsAndPeople();
        due.finish();
    }

    private static void newObject() {
        QuotaLaws x = new QuotaLaws();
        for (int what = 0; what <= 5; what++) {
            due.is("new rule(" + what + ")", x.rule(what), 0);
        }
        for (int what = 0; what <= 7; what++) {
            due.is("new count(" + what + ")", x.count(what), what == 5 ? QuotaLaws.NONE : 0);
        }
        due.is("new fault()", x.fault(), 0);
        due.is("new torn()", x.torn(), 0);
        due.is("new falls()", x.falls(), 0);
        due.is("new most(0)", x.most(0), QuotaLaws.NONE);
        due.is("new rota(0)", x.rota(0), 0);
        due.is("new rota(10)", x.rota(10), QuotaLaws.BAD);
        due.is("new books()", x.books(), 1);
        due.is("new together(0)", x.together(0), 0);
        due.is("new selfish(0)", x.selfish(0), 0);
        due.is("new year()", x.year(), 0);
        due.is("new law(0, 0)", x.law(0, 0), QuotaLaws.BAD);
        due.is("new one(0, 0)", x.one(0, 0), QuotaLaws.BAD);
        for (int k = 0; k < 4; k++) {
            due.is("new lay(" + k + ", 0, 0)", x.lay(k, 0, 0), -11);
        }
        due.is("new back(0)", x.back(0), QuotaLaws.STATE);
    }

    private static void tape() {
        QuotaLaws x = new QuotaLaws();
        due.is("feed(-1)", x.feed(-1), QuotaLaws.BAD);
        due.is("feed(128)", x.feed(128), QuotaLaws.BAD);
        due.is("feed(MIN)", x.feed(Integer.MIN_VALUE), QuotaLaws.BAD);
        for (int i = 1; i <= 160; i++) {
            due.is("feed to " + i, x.feed(i % 2 == 0 ? 127 : 0), i);
        }
        due.is("feed 161", x.feed(32), QuotaLaws.FULL);
        due.is("feed 161, no byte", x.feed(200), QuotaLaws.BAD);
        due.is("count(4)", x.count(4), 160);
        due.is("end(161)", x.end(161), QuotaLaws.BAD);
        due.is("end(-1)", x.end(-1), QuotaLaws.BAD);
        due.is("end(160)", x.end(160), 160);
        due.is("end(3)", x.end(3), 160);
        due.is("end(4)", x.end(4), QuotaLaws.BAD);
        due.is("feed behind end", x.feed(32), 4);
        due.is("end(0)", x.end(0), 4);
        Due.feedAll(x, "watch 0;law 1 1 1 1;");
        x.end(8);
        Due.feedAll(x, "law 2 1 1 1;");
        due.is("text() behind end", x.text(), 2);
        due.is("law(0, 0) behind end", x.law(0, 0), 2);
    }

    private static void textsThatAreTaken() {
        taken("", 0);
        taken("    ", 0);
        taken("law 0 1 0 0;", 1);
        taken("law 9 3 9 9;", 1);
        taken("law09 03 09 09;", 1);
        taken("  law 1 1 1 1  ;  ", 1);
        taken("one 0 0 0 0;", 1);
        taken("one 5 3 10 99;", 1);
        taken("one 5 3 10 99 0 4 1 3 2;law 1 1 1 1;law 1 1 1 1;law 1 1 1 1;law 1 1 1 1;law 1 1 1 1;", 6);
        taken("want 2 4;watch 4;law 0 1 0 0 4;law 0 1 0 0;law 0 1 0 0;law 0 1 0 0;law 0 1 0 0;one 0 0 0 0;one 0 0 0 0;one 0 0 0 0;", 10);
        taken("want 0 0;want 1 0;one 0 0 0 0 0;one 0 0 0 0 0;law 0 1 0 0;", 5);
        taken("law 0 1 0 0 1;law 0 1 0 0 0;", 2);
    }

    private static void faults() {
        faulty("?", 1, 0);
        faulty("law 1 1 1 1\t;", 1, 11);
        faulty("law 100 1 1 1;", 1, 4);
        faulty("law 1 1 1 1;123", 1, 12);
        faulty("Law 1 1 1 1;", 1, 0);
        faulty("law 1 1 1 1;\n", 1, 12);
        faulty("law -1 1 1 1;", 1, 4);
        faulty("laws 1 1 1 1;", 2, 0);
        faulty("aaw 1 1 1 1;", 2, 0);
        faulty("zaw 1 1 1 1;", 2, 0);
        faulty("lan 1 1 1 1;", 2, 0);
        faulty("{", 1, 0);
        faulty("`", 1, 0);
        faulty("/", 1, 0);
        faulty(":", 1, 0);
        faulty("law 1:1 1 1;", 1, 5);
        faulty("law{1 1 1 1;", 1, 3);
        faulty("la w 1 1 1 1;", 2, 0);
        faulty(";", 2, 0);
        faulty("7", 2, 0);
        faulty(" what 1;", 2, 1);
        faulty("law", 2, 3);
        faulty("law  ", 2, 5);
        faulty("law ;", 2, 4);
        faulty("law law", 2, 4);
        faulty("law 1 1 1 1", 2, 11);
        faulty("law 1 1 1 1 law", 2, 12);
        faulty("law 1 1 1 1 1 1;", 2, 14);
        faulty("one 1 1 1;", 2, 9);
        faulty("one 1 1 1 1 one", 2, 12);
        faulty("want 0;", 2, 6);
        faulty("want 0 0 0;", 2, 9);
        faulty("watch;", 2, 5);
        faulty("watch 0 1;", 2, 8);
        faulty("law 1 1 1 1;;", 2, 12);
        faulty("law 10 1 1 1;", 3, 4);
        faulty("law 1 0 1 1;", 3, 6);
        faulty("law 1 4 1 1;", 3, 6);
        faulty("law 1 1 10 1;", 3, 8);
        faulty("law 1 1 1 10;", 3, 10);
        faulty("law 1 1 1 1 5;", 3, 12);
        faulty("one 6 0 0 0;", 3, 4);
        faulty("one 0 4 0 0;", 3, 6);
        faulty("one 0 0 11 0;", 3, 8);
        faulty("one 0 0 0 0 5;", 3, 12);
        faulty("want 3 0;", 3, 5);
        faulty("want 0 5;", 3, 7);
        faulty("watch 5;", 3, 6);
        faulty("law 10 x ?", 3, 4);
        faulty("law 1 1 1 1 0;", 4, 12);
        faulty("law 1 1 1 1;law 1 1 1 1 1;", 4, 24);
        faulty("one 0 0 0 0 1 1;", 4, 14);
        faulty("one 0 0 0 0 0 1 2 3 4 0;", 4, 22);
        faulty("want 0 1;want 0 1;", 4, 16);
        faulty("watch 1;watch 1;", 4, 14);
        faulty("watch 1;watch 1 ?", 4, 14);
        String law = "law 1 1 1 1;";
        faulty(law + law + law + law + law + "law", 5, 60);
        faulty(law + law + law + law + law + " law ?", 5, 61);
        faulty("one 0 0 0 0;one 0 0 0 0;one 0 0 0 0;one", 5, 36);
        faulty("law 1 1 1 1 1;", 6, 14);
        faulty("law 1 1 1 1 1; ", 6, 15);
        faulty("one 0 0 0 0 0;", 6, 14);
        faulty("law 1 1 1 1;one 0 0 0 0 1;", 6, 26);
        faulty("law 1 1 1 1;want 0 0;", 6, 21);
        faulty("one 1 1 1 1;want 0 0;", 6, 21);
        faulty("one 1 1 1 1;law 1 1 1 1;want 1 0;", 6, 33);
        faulty("watch 0;", 6, 8);
    }

    private static void taken(String text, int lines) {
        QuotaLaws x = new QuotaLaws();
        Due.feedAll(x, text);
        due.is("text() of " + text, x.text(), lines);
        due.is("fault() of " + text, x.fault(), 0);
        due.is("count(4) behind " + text, x.count(4), 0);
    }

    private static void faulty(String text, int fault, int place) {
        QuotaLaws x = Due.told("law 7 3 2 1;one 3 1 4 1;");
        Due.feedAll(x, text);
        due.is("text() of " + text, x.text(), -10 - place);
        due.is("fault() of " + text, x.fault(), fault);
        due.is("count(4) behind " + text, x.count(4), 0);
        due.is("rule(0) behind " + text, x.rule(0), 1);
        due.is("law(0, 0) behind " + text, x.law(0, 0), 7);
        due.is("one(0, 2) behind " + text, x.one(0, 2), 4);
    }

    private static void whatStaysAndWhatGoes() {
        QuotaLaws x = Due.told("law 1 3 2 1;law 9 1 1 1;one 5 1 4 1;watch 0;want 0 1;");
        x.breaks(0, 0);
        x.keep(0);
        x.see(0, 0, 1);
        x.year();
        x.breaks(0, 0);
        Due.feedAll(x, "law x");
        due.is("a faulty text", x.text(), -14);
        due.is("DONE stays", x.rule(3), 3);
        due.is("YEAR stays", x.rule(2), 1);
        due.is("SEEN stays", x.count(2), 1);
        due.is("IMAGES stay", x.count(3), 1);
        due.is("LAWS that STAND stay", x.rule(4), 1);
        Due.feedAll(x, "law 2 1 1 1;law 2 1 1 1;one 1 0 0 0;");
        due.is("a text that is taken", x.text(), 3);
        due.is("fault() is 0 again", x.fault(), 0);
        due.is("YEAR", x.rule(2), 0);
        due.is("DONE", x.rule(3), 0);
        due.is("STAND", x.rule(4), 3);
        due.is("WATCHED", x.rule(5), 0);
        due.is("WANTS", x.one(0, 5), 0);
        due.is("BROKEN", x.count(1), 0);
        due.is("SEEN", x.count(2), 0);
        due.is("IMAGES", x.count(3), 0);
        due.is("no IMAGE", x.back(0), QuotaLaws.STATE);
        due.is("an empty text", x.text(), 0);
        due.is("no LAWS", x.rule(0), 0);
        due.is("nobody", x.rule(1), 0);
    }

    private static void rules() {
        QuotaLaws x = Due.told("law 1 1 4 0;law 0 1 0 0;law 0 1 0 0;one 1 1 1 1;one 1 1 1 1;watch 2;watch 1;");
        x.breaks(1, 0);
        x.year();
        due.is("rule(0)", x.rule(0), 3);
        due.is("rule(1)", x.rule(1), 2);
        due.is("rule(2)", x.rule(2), 1);
        due.is("rule(3)", x.rule(3), 5);
        due.is("rule(4)", x.rule(4), 7);
        due.is("rule(5)", x.rule(5), 6);
        due.is("rule(-1)", x.rule(-1), QuotaLaws.BAD);
        due.is("rule(6)", x.rule(6), QuotaLaws.BAD);
    }

    private static void lawsAndPeople() {
        QuotaLaws x = Due.told("law 3 2 5 4 2;law 1 1 7 0;law 8 3 9 6 1;one 4 3 10 98 1;one 2 0 7 5 0 2;want 1 0;want 1 2;");
        long[] law = {3, 2, 5, 4, 2, 3, 7};
        long[] plain = {1, 1, 7, 0, QuotaLaws.NONE, 1, 2};
        for (int what = 0; what < 7; what++) {
            due.is("law(0, " + what + ")", x.law(0, what), law[what]);
            due.is("law(1, " + what + ")", x.law(1, what), plain[what]);
        }
        long[] one = {2, 0, 7, 5, 5, 5, 0, 2};
        for (int what = 0; what < 8; what++) {
            due.is("one(1, " + what + ")", x.one(1, what), one[what]);
        }
        due.is("one(0, 7)", x.one(0, 7), 5);
        due.is("breaks(0, 0)", x.breaks(0, 0), 8);
        due.is("breaks(0, 0)", x.breaks(0, 0), 8);
        due.is("broken(0, 0)", x.broken(0, 0), 2);
        due.is("broken(1, 0)", x.broken(1, 0), 0);
        due.is("broken(0, 2)", x.broken(0, 2), 0);
        due.is("at the CAP he can not", x.one(0, 7), 4);
        due.is("one(0, 6)", x.one(0, 6), 2);
        due.is("law(0, 5)", x.law(0, 5), 1);
        x.breaks(0, 2);
        x.breaks(0, 2);
        due.is("without time he can not", x.one(0, 7), 0);
        due.is("one(0, 6)", x.one(0, 6), 4);
        x.quota(2, 1);
        due.is("NEED is 0 at least", x.law(2, 5), 0);
        x.carry(1, 0);
        due.is("a ring", x.law(1, 6), 7);
        x.year();
        due.is("NEED of a LAPSED law", x.law(0, 5), 0);
        due.is("CHAIN of a LAPSED law", x.law(0, 6), 7);
        due.is("LAPSED laws can not be broken", x.one(0, 7), 0);
        int[] wrong = {-1, 3, 99, Integer.MIN_VALUE, Integer.MAX_VALUE};
        for (int w : wrong) {
            due.is("law(" + w + ", 0)", x.law(w, 0), QuotaLaws.BAD);
            due.is("one(" + w + ", 0)", x.one(w, 0), QuotaLaws.BAD);
            due.is("broken(" + w + ", 0)", x.broken(w, 0), QuotaLaws.BAD);
            due.is("broken(0, " + w + ")", x.broken(0, w), QuotaLaws.BAD);
        }
        due.is("one(2, 0)", x.one(2, 0), QuotaLaws.BAD);
        due.is("broken(2, 0)", x.broken(2, 0), QuotaLaws.BAD);
        due.is("law(0, 7)", x.law(0, 7), QuotaLaws.BAD);
        due.is("law(0, -1)", x.law(0, -1), QuotaLaws.BAD);
        due.is("one(0, 8)", x.one(0, 8), QuotaLaws.BAD);
        due.is("one(0, -1)", x.one(0, -1), QuotaLaws.BAD);
    }
}
