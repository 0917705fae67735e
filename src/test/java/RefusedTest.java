import java.util.function.Supplier;
import java.util.function.ToLongFunction;

/** "what is refused changes nothing (but THE TAPE, as told)": each way in which each call is refused, on objects in many states. */
public final class RefusedTest {
    private static final Due due = new Due();
    private static final Twins twins = new Twins(due);
    private static final int BAD = QuotaLaws.BAD, STATE = QuotaLaws.STATE, FULL = QuotaLaws.FULL, NONE = QuotaLaws.NONE;
    private static final int MIN = Integer.MIN_VALUE, MAX = Integer.MAX_VALUE;
    private static final String TOWN = "law 3 2 5 4 1;law 2 1 3 0 2;law 1 3 9 9;law 0 1 0 0 0;law 4 3 1 2;"
            + "one 5 1 5 20 2;one 4 0 10 3;one 3 3 0 99 4;want 0 0;want 1 1;want 2 0;watch 0;watch 2;";

    public static void main(String[] args) {
        feedAndEnd();
        faultyTexts();
        questions();
        changes();
        breakings();
        rotas();
        seen();
        wild();
        images();
        sheets();
        readings();
        whereNothingIsTold();
        due.finish();
    }

    private static void no(String call, Supplier<QuotaLaws> made, ToLongFunction<QuotaLaws> step, long want) {
        twins.refused(call, made, step, want);
    }

    private static void no(String call, ToLongFunction<QuotaLaws> step, long want) {
        no(call, RefusedTest::busy, step, want);
    }

    /** Something of everything: lapsed and standing laws, breakings, sightings, one image, three sheets, both faults, a tape. */
    private static QuotaLaws busy() {
        QuotaLaws x = Due.told(TOWN);
        x.breaks(1, 1);
        x.breaks(2, 1);
        x.breaks(0, 4);
        x.see(0, 1, 2);
        x.keep(0);
        x.year();
        x.revive(0);
        x.revive(2);
        x.quota(2, 2);
        x.fund(1, 7);
        x.breaks(1, 0);
        x.breaks(0, 0);
        x.see(1, 0, 2);
        x.feed('?');
        x.text();
        layAll(x, 0, 0, 0, 0, 1, 2, 2, 2);
        layAll(x, 1, 1, 2, 0, 1);
        layAll(x, 2, 2, 1, 2, 9, 9, 0);
        x.read(1, 0, 0, 1);
        Due.feedAll(x, "law 7 2 1 1;one 2 1 3 5;want 0 0;");
        return x;
    }

    private static void layAll(QuotaLaws x, int k, int lane, int... cells) {
        x.sheet(k, lane, cells.length);
        for (int i = 0; i < cells.length; i++) {
            x.lay(k, i, cells[i]);
        }
    }

    private static QuotaLaws fullTape() {
        QuotaLaws x = Due.told("law 1 1 1 1;one 1 1 1 1;");
        Due.feedAll(x, "law 7 2 1 1;");
        for (int i = 12; i < 160; i++) {
            x.feed(' ');
        }
        return x;
    }

    private static void feedAndEnd() {
        no("feed(-1)", x -> x.feed(-1), BAD);
        no("feed(128)", x -> x.feed(128), BAD);
        no("feed(MIN)", x -> x.feed(MIN), BAD);
        no("feed(MAX)", x -> x.feed(MAX), BAD);
        no("feed(256 + 59)", x -> x.feed(256 + 59), BAD);
        no("feed(59), full", RefusedTest::fullTape, x -> x.feed(59), FULL);
        no("feed(128), full", RefusedTest::fullTape, x -> x.feed(128), BAD);
        no("end(-1)", x -> x.end(-1), BAD);
        no("end(MIN)", x -> x.end(MIN), BAD);
        no("end(34) of 33", x -> x.end(34), BAD);
        no("end(161), full", RefusedTest::fullTape, x -> x.end(161), BAD);
        no("end(1), empty", QuotaLaws::new, x -> x.end(1), BAD);
    }

    /** Beside THE TAPE and fault(), which are both told to change: so the twin has an empty TAPE and the same FAULT. */
    private static void faultyTexts() {
        String[] texts = {"?", "law 1 1 1 1;one 2 2 2 2;123", "law 9 3 9 9;law", "law 9 3 9 9;one 6", "watch 1;watch 1;",
            "law 9 3 9 9;law 9 3 9 9 1;", "one 1 1 1 1;one 1 1 1 1;one 1 1 1 1;one", "law 9 3 9 9;one 5 3 9 9;want 0 1;"};
        int[] places = {0, 24, 15, 16, 14, 24, 36, 33};
        int[] faults = {1, 1, 2, 3, 4, 4, 5, 6};
        for (int i = 0; i < texts.length; i++) {
            String text = texts[i];
            String plainest = plainest(faults[i]);
            Supplier<QuotaLaws> made = () -> {
                QuotaLaws x = busy();
                x.end(0);
                Due.feedAll(x, plainest);
                x.text();
                return x;
            };
            no("text() of " + text, made, x -> {
                Due.feedAll(x, text);
                return x.text();
            }, -10 - places[i]);
        }
    }

    private static String plainest(int fault) {
        String[] texts = {"", "?", ";", "watch 5", "law 1 1 1 1 0", "one 0 0 0 0;one 0 0 0 0;one 0 0 0 0;one", "watch 0;"};
        return texts[fault];
    }

    private static void questions() {
        for (int w : new int[] {-1, 6, MIN, MAX}) {
            no("rule(" + w + ")", x -> x.rule(w), BAD);
        }
        for (int w : new int[] {-1, 7, MIN, MAX}) {
            no("law(0, " + w + ")", x -> x.law(0, w), BAD);
        }
        for (int w : new int[] {-1, 8, MIN, MAX}) {
            no("one(0, " + w + ")", x -> x.one(0, w), BAD);
            no("count(" + w + ")", x -> x.count(w), BAD);
        }
        for (int l : new int[] {-1, 5, MIN, MAX}) {
            no("law(" + l + ", 0)", x -> x.law(l, 0), BAD);
            no("broken(0, " + l + ")", x -> x.broken(0, l), BAD);
        }
        for (int p : new int[] {-1, 3, MIN, MAX}) {
            no("one(" + p + ", 0)", x -> x.one(p, 0), BAD);
            no("broken(" + p + ", 0)", x -> x.broken(p, 0), BAD);
        }
    }

    private static void changes() {
        for (int l : new int[] {-1, 5, NONE, MIN, MAX}) {
            no("quota(" + l + ", 1)", x -> x.quota(l, 1), BAD);
            no("carry(" + l + ", 1)", x -> x.carry(l, 1), BAD);
            no("carry(" + l + ", NONE)", x -> x.carry(l, NONE), BAD);
            no("watch(" + l + ", true)", x -> x.watch(l, true), BAD);
            no("watch(" + l + ", false)", x -> x.watch(l, false), BAD);
            no("refuse(0, " + l + ", true)", x -> x.refuse(0, l, true), BAD);
            no("refuse(0, " + l + ", false)", x -> x.refuse(0, l, false), BAD);
            no("want(0, " + l + ", true)", x -> x.want(0, l, true), BAD);
            no("want(0, " + l + ", false)", x -> x.want(0, l, false), BAD);
            no("revive(" + l + ")", x -> x.revive(l), BAD);
        }
        for (int p : new int[] {-1, 3, MIN, MAX}) {
            no("time(" + p + ", 1)", x -> x.time(p, 1), BAD);
            no("refuse(" + p + ", 0, true)", x -> x.refuse(p, 0, true), BAD);
            no("want(" + p + ", 2, true)", x -> x.want(p, 2, true), BAD);
            no("fund(" + p + ", 1)", x -> x.fund(p, 1), BAD);
        }
        for (int v : new int[] {-1, MIN, MAX}) {
            no("quota(0, " + v + ")", x -> x.quota(0, v), BAD);
            no("carry(0, " + v + ")", x -> x.carry(0, v), BAD);
            no("time(0, " + v + ")", x -> x.time(0, v), BAD);
            no("fund(0, " + v + ")", x -> x.fund(0, v), BAD);
        }
        no("quota(0, 10)", x -> x.quota(0, 10), BAD);
        no("carry(0, 5)", x -> x.carry(0, 5), BAD);
        no("carry(0, -3)", x -> x.carry(0, -3), BAD);
        no("carry(0, -5)", x -> x.carry(0, -5), BAD);
        no("carry(0, 0)", x -> x.carry(0, 0), BAD);
        no("carry(4, 4)", x -> x.carry(4, 4), BAD);
        no("time(0, 6)", x -> x.time(0, 6), BAD);
        no("fund(0, 100)", x -> x.fund(0, 100), BAD);
        no("revive(0)", x -> x.revive(0), STATE);
        no("revive(2)", x -> x.revive(2), STATE);
    }

    /** Three who break laws of HARM 9 with CLUMSY 3 as often as they can: 180 a year, so that DONE is 9984 in time. */
    private static QuotaLaws nearlyDone() {
        QuotaLaws x = Due.told("law 0 3 9 0;law 0 3 9 2;law 1 1 6 9;one 5 3 1 9;one 5 3 2 9;one 5 3 3 9;watch 2;");
        int[] cells = new int[30];
        for (int i = 0; i < 15; i++) {
            cells[2 * i] = i / 5;
            cells[2 * i + 1] = i % 5 / 3;
        }
        layAll(x, 3, 0, cells);
        for (int year = 0; year < 55; year++) {
            due.is("15 breakings in year " + year, x.read(3, 0, 0, 15), 15);
            x.year();
            x.revive(2);
        }
        due.is("DONE", x.rule(3), 9900);
        due.is("seven more", x.read(3, 0, 0, 7), 7);
        due.is("DONE", x.rule(3), 9984);
        x.fund(1, 8);
        return x;
    }

    private static QuotaLaws lastYear() {
        QuotaLaws x = Due.told("law 1 1 1 1;law 2 2 2 2;one 2 2 2 2;");
        for (int i = 0; i < 998; i++) {
            x.year();
        }
        x.revive(1);
        x.breaks(0, 1);
        x.keep(0);
        due.is("YEAR 999 comes", x.year(), 2);
        x.revive(0);
        x.breaks(0, 0);
        return x;
    }

    private static void breakings() {
        for (int w : new int[] {-1, 5, MIN, MAX}) {
            no("breaks(0, " + w + ")", x -> x.breaks(0, w), BAD);
            no("breaks(" + w + ", 0)", x -> x.breaks(w, 0), BAD);
        }
        no("breaks(3, 0)", x -> x.breaks(3, 0), BAD);
        no("a LAW that LAPSED", x -> x.breaks(0, 1), STATE);
        no("he REFUSES", x -> x.breaks(0, 2), STATE);
        no("PURSE is less than FINE", x -> x.breaks(1, 0), STATE);
        Supplier<QuotaLaws> spent = () -> {
            QuotaLaws x = busy();
            x.watch(0, false);
            x.breaks(1, 0);
            x.time(0, 1);
            return x;
        };
        no("as often as CAP", spent, x -> x.breaks(1, 0), STATE);
        no("as often as TIME", spent, x -> x.breaks(0, 0), STATE);
        Supplier<QuotaLaws> brim = () -> {
            QuotaLaws x = nearlyDone();
            x.breaks(2, 2);
            return x;
        };
        no("DONE would be 10005", brim, x -> x.breaks(1, 1), FULL);
        no("no such LAW, ahead of FULL", brim, x -> x.breaks(1, 3), BAD);
        no("as often as CAP, ahead of FULL", brim, x -> x.breaks(0, 0), STATE);
        no("PURSE is less than FINE, ahead of FULL", brim, x -> x.breaks(1, 2), STATE);
        no("YEAR 1000", RefusedTest::lastYear, QuotaLaws::year, FULL);
        Supplier<QuotaLaws> fallen = () -> {
            QuotaLaws x = Due.told("law 1 1 1 1 1;law 1 1 1 1;one 1 1 1 1;");
            x.year();
            return x;
        };
        no("most(0), none STANDS", fallen, x -> x.most(0), NONE);
        no("most(1), none STANDS", fallen, x -> x.most(1), NONE);
        no("most(2), none STANDS", fallen, x -> x.most(2), BAD);
        no("most(2)", x -> x.most(2), BAD);
        no("most(-1)", x -> x.most(-1), BAD);
    }

    private static void rotas() {
        for (int w : new int[] {-1, 1, 9, 25, 1000, MIN, MAX}) {
            no("rota(" + w + ")", x -> x.rota(w), BAD);
        }
        no("rota(0), none", RefusedTest::noRota, x -> x.rota(0), NONE);
        no("rota(24), none", RefusedTest::noRota, x -> x.rota(24), NONE);
        no("rota(25), none", RefusedTest::noRota, x -> x.rota(25), BAD);
        for (int p : new int[] {-1, 3, MIN, MAX}) {
            no("more(" + p + ")", x -> x.more(p), BAD);
        }
        no("more(0), none", RefusedTest::noRota, x -> x.more(0), NONE);
        for (int w : new int[] {-1, 2, MIN, MAX}) {
            no("together(" + w + ")", x -> x.together(w), BAD);
            no("kill(0, " + w + ")", x -> x.kill(0, w), BAD);
            no("luck(0, " + w + ")", x -> x.luck(0, w), BAD);
        }
        for (int l : new int[] {-1, 5, MIN, MAX}) {
            no("kill(" + l + ", 0)", x -> x.kill(l, 0), BAD);
            no("luck(" + l + ", 0)", x -> x.luck(l, 0), BAD);
        }
        no("kill(1, 0), LAPSED", x -> x.kill(1, 0), STATE);
        no("kill(1, 1), LAPSED", x -> x.kill(1, 1), STATE);
        no("kill(0, 0), NEED 0", RefusedTest::noNeed, x -> x.kill(0, 0), NONE);
        no("kill(0, 1), NEED 0", RefusedTest::noNeed, x -> x.kill(0, 1), NONE);
        for (int w : new int[] {-1, 3, MIN, MAX}) {
            no("selfish(" + w + ")", x -> x.selfish(w), BAD);
        }
    }

    private static QuotaLaws noRota() {
        QuotaLaws x = busy();
        x.quota(0, 9);
        return x;
    }

    private static QuotaLaws noNeed() {
        QuotaLaws x = busy();
        x.quota(0, 2);
        return x;
    }

    private static QuotaLaws fullBooks() {
        QuotaLaws x = Due.told(TOWN);
        for (int i = 0; i < 8; i++) {
            x.see(i % 2, i % 3, i / 4);
        }
        return x;
    }

    private static void seen() {
        for (int w : new int[] {-1, 2, MIN, MAX}) {
            no("see(" + w + ", 0, 1)", x -> x.see(w, 0, 1), BAD);
        }
        for (int a : new int[] {-1, 5, MIN, MAX}) {
            no("see(0, " + a + ", 1)", x -> x.see(0, a, 1), BAD);
            no("see(1, " + a + ", 1)", x -> x.see(1, a, 1), BAD);
        }
        no("see(0, 3, 1)", x -> x.see(0, 3, 1), BAD);
        for (int n : new int[] {-1, 21, MIN, MAX}) {
            no("see(0, 0, " + n + ")", x -> x.see(0, 0, n), BAD);
            no("see(0, 0, " + n + "), full", RefusedTest::fullBooks, x -> x.see(0, 0, n), BAD);
        }
        no("see(0, 0, 1), full", RefusedTest::fullBooks, x -> x.see(0, 0, 1), FULL);
        no("see(1, 4, 20), full", RefusedTest::fullBooks, x -> x.see(1, 4, 20), FULL);
        for (int n : new int[] {-1, 3, MIN, MAX}) {
            no("forget(" + n + ") of 2", x -> x.forget(n), BAD);
        }
        no("forget(9), full", RefusedTest::fullBooks, x -> x.forget(9), BAD);
        no("forget(1), empty", QuotaLaws::new, x -> x.forget(1), BAD);
        for (int w : new int[] {-1, 2, MIN, MAX}) {
            no("entry(0, 0, " + w + ")", x -> x.entry(0, 0, w), BAD);
        }
        for (int p : new int[] {-1, 3, MIN, MAX}) {
            no("entry(" + p + ", 0, 0)", x -> x.entry(p, 0, 0), BAD);
        }
        for (int l : new int[] {-1, 5, MIN, MAX}) {
            no("entry(0, " + l + ", 0)", x -> x.entry(0, l, 0), BAD);
        }
        no("entry(0, 0, 0), none FITS", RefusedTest::noneFits, x -> x.entry(0, 0, 0), NONE);
        no("entry(2, 4, 1), none FITS", RefusedTest::noneFits, x -> x.entry(2, 4, 1), NONE);
    }

    private static QuotaLaws noneFits() {
        QuotaLaws x = busy();
        x.see(0, 0, 20);
        return x;
    }

    private static void wild() {
        for (int n : new int[] {-1, 0, 61, MIN, MAX}) {
            no("wild(1, " + n + ", 0)", x -> x.wild(1, n, 0), BAD);
        }
        for (int w : new int[] {-1, 2, MIN, MAX}) {
            no("wild(1, 1, " + w + ")", x -> x.wild(1, 1, w), BAD);
        }
        no("wild, nobody", () -> Due.told("law 1 1 1 1;"), x -> x.wild(1, 1, 0), STATE);
        no("wild, no LAW", () -> Due.told("one 1 1 1 1;"), x -> x.wild(1, 1, 1), STATE);
        no("wild(1, 0, 0), nobody", () -> Due.told("law 1 1 1 1;"), x -> x.wild(1, 0, 0), BAD);
    }

    private static void images() {
        for (int k : new int[] {-1, 2, MIN, MAX}) {
            no("keep(" + k + ")", x -> x.keep(k), BAD);
            no("back(" + k + ")", x -> x.back(k), BAD);
        }
        no("back(1), there is none", x -> x.back(1), STATE);
        no("back(0), a text was taken", () -> {
            QuotaLaws x = busy();
            x.text();
            return x;
        }, x -> x.back(0), STATE);
    }

    private static void sheets() {
        for (int k : new int[] {-1, 4, MIN, MAX}) {
            no("sheet(" + k + ", 0, 1)", x -> x.sheet(k, 0, 1), BAD);
            no("sheet(" + k + ", 0, -1)", x -> x.sheet(k, 0, -1), BAD);
            no("lay(" + k + ", 0, 1)", x -> x.lay(k, 0, 1), BAD);
        }
        for (int lane : new int[] {-1, 3, MIN, MAX}) {
            no("sheet(0, " + lane + ", 1)", x -> x.sheet(0, lane, 1), BAD);
            no("sheet(0, " + lane + ", -1)", x -> x.sheet(0, lane, -1), BAD);
        }
        for (int k = 0; k < 4; k++) {
            int at = k;
            no("sheet(" + k + ", 1, 41)", x -> x.sheet(at, 1, 41), BAD);
            no("sheet(" + k + ", 1, MAX)", x -> x.sheet(at, 1, MAX), BAD);
            no("sheet(" + k + ", 1, -1)", x -> x.sheet(at, 1, -1), -14);
            no("sheet(" + k + ", 1, MIN)", x -> x.sheet(at, 1, MIN), -14);
        }
        for (int i : new int[] {-1, 6, 40, MIN, MAX}) {
            no("lay(0, " + i + ", 1)", x -> x.lay(0, i, 1), -12);
            no("lay(3, " + i + ", 1)", x -> x.lay(3, i, 1), -11);
        }
        no("lay(3, 0, 1)", x -> x.lay(3, 0, 1), -11);
    }

    private static void readings() {
        for (int k : new int[] {-1, 4, MIN, MAX}) {
            no("read(" + k + ", 0, 0, 1)", x -> x.read(k, 0, 0, 1), BAD);
        }
        for (int lane : new int[] {-1, 3, MIN, MAX}) {
            no("read(0, " + lane + ", 0, 1)", x -> x.read(0, lane, 0, 1), BAD);
            no("read(3, " + lane + ", 0, 1)", x -> x.read(3, lane, 0, 1), BAD);
        }
        for (int n : new int[] {-1, 21, MIN, MAX}) {
            no("read(0, 0, 0, " + n + ")", x -> x.read(0, 0, 0, n), BAD);
        }
        no("the first is refused: a LAW that LAPSED", x -> x.read(0, 0, 1, 3), -20);
        no("the second is refused: BAD", RefusedTest::able, x -> x.read(2, 2, 0, 3), -21);
        no("the third is refused: STATE", RefusedTest::able, x -> x.read(0, 0, 0, 4), -22);
        no("the second is refused: FULL", RefusedTest::nearlyDone, x -> x.read(3, 0, 20, 2), -21);
    }

    /** ONE 1 pays nothing for LAW 2, and ONE 2 has no time. */
    private static QuotaLaws able() {
        QuotaLaws x = busy();
        x.watch(2, false);
        x.time(2, 0);
        return x;
    }

    private static void whereNothingIsTold() {
        Supplier<QuotaLaws> made = QuotaLaws::new;
        no("law(0, 0)", made, x -> x.law(0, 0), BAD);
        no("one(0, 0)", made, x -> x.one(0, 0), BAD);
        no("broken(0, 0)", made, x -> x.broken(0, 0), BAD);
        no("quota(0, 0)", made, x -> x.quota(0, 0), BAD);
        no("carry(0, 1)", made, x -> x.carry(0, 1), BAD);
        no("watch(0, true)", made, x -> x.watch(0, true), BAD);
        no("time(0, 0)", made, x -> x.time(0, 0), BAD);
        no("refuse(0, 0, true)", made, x -> x.refuse(0, 0, true), BAD);
        no("want(0, 0, true)", made, x -> x.want(0, 0, true), BAD);
        no("fund(0, 0)", made, x -> x.fund(0, 0), BAD);
        no("revive(0)", made, x -> x.revive(0), BAD);
        no("breaks(0, 0)", made, x -> x.breaks(0, 0), BAD);
        no("most(0)", made, x -> x.most(0), NONE);
        no("rota(10)", made, x -> x.rota(10), BAD);
        no("more(0)", made, x -> x.more(0), BAD);
        no("kill(0, 0)", made, x -> x.kill(0, 0), BAD);
        no("luck(0, 0)", made, x -> x.luck(0, 0), BAD);
        no("see(0, 0, 0)", made, x -> x.see(0, 0, 0), BAD);
        no("see(1, 0, 0)", made, x -> x.see(1, 0, 0), BAD);
        no("entry(0, 0, 0)", made, x -> x.entry(0, 0, 0), BAD);
        no("wild(0, 1, 0)", made, x -> x.wild(0, 1, 0), STATE);
        no("back(0)", made, x -> x.back(0), STATE);
        no("lay(0, 0, 0)", made, x -> x.lay(0, 0, 0), -11);
    }
}
