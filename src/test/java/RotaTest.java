/** Promises 22 to 27: rotas, whom more time would help, which stand together, whom to keep, each for himself, luck. */
public final class RotaTest {
    private static final Due due = new Due();
    private static final int BAD = QuotaLaws.BAD, STATE = QuotaLaws.STATE, NONE = QuotaLaws.NONE;

    public static void main(String[] args) {
        rota();
        firstOfSeveral();
        more();
        together();
        kill();
        selfish();
        luck();
        due.finish();
    }

    private static void rota() {
        QuotaLaws x = Due.told("law 2 2 5 9;law 2 1 3 9;one 2 3 0 0;one 2 0 0 0;one 5 1 0 0 0 1;watch 0;watch 1;");
        due.is("FINES are not thought of", x.rota(0), 2 * 5 + 2 * 3 + 2 * 3);
        due.is("ONE 0 of LAW 0", x.rota(10), 1);
        due.is("ONE 1 of LAW 0", x.rota(11), 1);
        due.is("ONE 2 of LAW 0", x.rota(12), 0);
        due.is("ONE 0 of LAW 1", x.rota(13), 1);
        due.is("ONE 1 of LAW 1", x.rota(14), 1);
        due.is("ONE 2 of LAW 1", x.rota(15), 0);
        int[] wrong = {-1, 1, 9, 16, 24, 25, 1000, Integer.MAX_VALUE, Integer.MIN_VALUE};
        for (int w : wrong) {
            due.is("rota(" + w + ")", x.rota(w), BAD);
        }
        x.quota(1, 3);
        due.is("none", x.rota(0), NONE);
        due.is("none", x.rota(15), NONE);
        due.is("BAD ahead of NONE", x.rota(16), BAD);
        QuotaLaws two = Due.told("law 1 1 0 0;one 1 0 0 0;one 1 0 0 0;");
        due.is("no ONE 2", two.rota(12), BAD);
        due.is("LAW 1 there is not", two.rota(13), BAD);
        due.is("nothing changed", two.count(1), 0);
        two.year();
        due.is("none STANDS: none needed", two.rota(0), 0);
        due.is("none STANDS: none needed", two.rota(11), 0);
        QuotaLaws nobody = Due.told("law 1 1 0 0;");
        due.is("nobody", nobody.rota(0), NONE);
        due.is("nobody", nobody.rota(10), BAD);
        nobody.quota(0, 0);
        due.is("no quota", nobody.rota(0), 0);
    }

    private static void firstOfSeveral() {
        QuotaLaws x = Due.told("law 3 2 1 0;law 3 2 1 0;one 5 1 0 0;one 5 1 0 0;one 2 1 0 0;");
        int[] first = {0, 1, 2, 1, 2, 0};
        due.is("all the same harm", x.rota(0), 12);
        for (int i = 0; i < 6; i++) {
            due.is("rota(" + (10 + i) + ")", x.rota(10 + i), first[i]);
        }
        x.breaks(2, 0);
        int[] then = {0, 1, 1, 1, 2, 0};
        due.is("from now on", x.rota(0), 10);
        for (int i = 0; i < 6; i++) {
            due.is("then rota(" + (10 + i) + ")", x.rota(10 + i), then[i]);
        }
    }

    private static void more() {
        QuotaLaws x = Due.told("law 9 3 0 0;law 9 3 0 0;one 0 0 0 0;one 5 0 0 0;one 5 0 0 0;");
        due.is("more(0)", x.more(0), NONE);
        x.quota(1, 7);
        due.is("by 6 of him", x.more(0), 6);
        due.is("by none of him", x.more(1), NONE);
        due.is("time stays", x.one(0, 0), 0);
        due.is("more(3)", x.more(3), BAD);
        due.is("more(-1)", x.more(-1), BAD);
        QuotaLaws y = Due.told("law 3 3 0 0;law 3 3 0 0;law 3 3 0 0;one 0 0 0 0;");
        due.is("by nine", y.more(0), 9);
        due.is("by ten: none", Due.told("law 3 3 0 0;law 3 3 0 0;law 3 3 0 0;law 1 1 0 0;one 0 0 0 0;").more(0), NONE);
        y.time(0, 3);
        y.breaks(0, 0);
        y.breaks(0, 0);
        y.time(0, 0);
        due.is("more BROKEN than TIME", y.more(0), 9);
        y.quota(2, 0);
        due.is("more BROKEN than TIME", y.more(0), 6);
        y.quota(0, 2);
        y.quota(1, 0);
        due.is("there is one", y.more(0), 0);
    }

    private static void together() {
        QuotaLaws x = Due.told("law 3 3 0 0;law 2 2 0 0;law 2 2 0 0;law 0 1 0 0;one 4 0 0 0;");
        due.is("how many", x.together(0), 3);
        due.is("the least set", x.together(1), 14);
        due.is("together(2)", x.together(2), BAD);
        due.is("together(-1)", x.together(-1), BAD);
        x.refuse(0, 1, true);
        due.is("how many", x.together(0), 2);
        due.is("the least set", x.together(1), 9);
        x.breaks(0, 2);
        due.is("how many", x.together(0), 2);
        due.is("of NEED that is left", x.together(1), 9);
        x.breaks(0, 2);
        due.is("how many", x.together(0), 2);
        due.is("met already", x.together(1), 12);
        x.year();
        due.is("LAPSED ones stay out", x.together(1), 12 & x.rule(4));
        due.is("LAPSED ones stay out", x.rule(4), 12);
    }

    private static void kill() {
        QuotaLaws x = Due.told("law 3 2 0 0;law 0 1 0 0;one 5 0 0 0;one 1 0 0 0;one 5 0 0 0;");
        // 2, 1 and 2 tries, 3 needed: without any one of them there are 3 at least.
        due.is("two of them", x.kill(0, 0), 2);
        due.is("the least set", x.kill(0, 1), 3);
        x.time(1, 0);
        due.is("2 and 2 tries", x.kill(0, 0), 1);
        due.is("2 and 2 tries", x.kill(0, 1), 1);
        x.time(1, 1);
        due.is("NEED 0: by none", x.kill(1, 0), NONE);
        due.is("NEED 0: by none", x.kill(1, 1), NONE);
        due.is("kill(2, 0)", x.kill(2, 0), BAD);
        due.is("kill(0, 2)", x.kill(0, 2), BAD);
        due.is("kill(-1, 0)", x.kill(-1, 0), BAD);
        x.quota(0, 4);
        due.is("ONE 0 it is", x.kill(0, 1), 1);
        x.refuse(0, 0, true);
        due.is("none need be kept", x.kill(0, 0), 0);
        due.is("none need be kept", x.kill(0, 1), 0);
        x.quota(0, 1);
        due.is("both others", x.kill(0, 0), 2);
        due.is("both others", x.kill(0, 1), 6);
        x.quota(0, 4);
        x.year();
        due.is("LAPSED", x.kill(0, 0), STATE);
        QuotaLaws y = Due.told("law 3 2 0 0;one 1 0 0 0;one 1 0 0 0;one 5 0 0 0;");
        due.is("ONE 2 alone, though 0 and 1 together would do", y.kill(0, 0), 1);
        due.is("ONE 2 alone, though 0 and 1 together would do", y.kill(0, 1), 4);
        due.is("BAD ahead of STATE", x.kill(0, 2), BAD);
    }

    private static void selfish() {
        QuotaLaws x = Due.told("law 2 2 5 0;law 3 3 1 9;law 1 1 1 0;one 4 1 0 0;one 2 0 0 0;want 0 0;want 0 1;want 1 0;watch 1;");
        // 0 takes 1, 1 takes 0; 0 takes 1, 1 takes 0; 0 takes 1.
        due.is("met", x.selfish(0), 3);
        due.is("breakings", x.selfish(1), 5);
        due.is("harm", x.selfish(2), 16);
        due.is("selfish(3)", x.selfish(3), BAD);
        due.is("selfish(-1)", x.selfish(-1), BAD);
        due.is("by itself", x.count(1), 0);
        due.is("by itself", x.rule(3), 0);
        x.refuse(0, 1, true);
        // 0 takes 0, 1 takes 0.
        due.is("met", x.selfish(0), 1);
        due.is("breakings", x.selfish(1), 2);
        due.is("harm", x.selfish(2), 11);
        x.breaks(1, 0);
        due.is("from now on", x.selfish(1), 1);
        x.quota(2, 0);
        due.is("no NEED from the first", x.selfish(0), 5);
        x.year();
        due.is("LAPSED ones are not met", x.selfish(0), 4);
    }

    private static void luck() {
        QuotaLaws x = Due.told("law 2 3 0 9;law 9 3 0 0;one 2 0 5 0;one 5 0 10 0 0;one 1 0 2 0;watch 0;");
        due.is("over", x.luck(0, 0), 7);
        due.is("under", x.luck(0, 1), 20);
        due.is("too few tries", x.luck(1, 0), 0);
        due.is("too few tries", x.luck(1, 1), 1);
        x.quota(0, 3);
        due.is("all of three", x.luck(0, 0), 1);
        due.is("all of three", x.luck(0, 1), 20);
        x.quota(1, 3);
        due.is("surely", x.luck(1, 0), 1);
        due.is("surely", x.luck(1, 1), 1);
        x.quota(0, 0);
        due.is("NEED 0", x.luck(0, 0), 1);
        due.is("NEED 0", x.luck(0, 1), 1);
        due.is("luck(2, 0)", x.luck(2, 0), BAD);
        due.is("luck(-1, 0)", x.luck(-1, 0), BAD);
        due.is("luck(0, 2)", x.luck(0, 2), BAD);
        due.is("luck(0, -1)", x.luck(0, -1), BAD);
        x.year();
        due.is("LAPSED: NEED 0", x.luck(1, 0), 1);
        QuotaLaws y = Due.told("law 9 3 0 0;one 5 0 1 0;one 5 0 3 0;one 5 0 7 0;");
        due.is("nine tries", y.luck(0, 0), 9261);
        due.is("nine tries", y.luck(0, 1), 1000000000);
    }
}
