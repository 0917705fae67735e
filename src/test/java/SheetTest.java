/** Promises 33 to 39: images, sheets, breakings read from sheets, counts. */
public final class SheetTest {
    private static final Due due = new Due();
    private static final int BAD = QuotaLaws.BAD, STATE = QuotaLaws.STATE, NONE = QuotaLaws.NONE;

    public static void main(String[] args) {
        images();
        sheets();
        lanes();
        reading();
        tornSheets();
        counts();
        due.finish();
    }

    private static void images() {
        QuotaLaws x = Due.told("law 1 2 3 4 1;law 2 3 4 5;one 3 2 1 9 1;one 2 1 0 9;want 0 1;watch 0;");
        due.is("keep(2)", x.keep(2), BAD);
        due.is("keep(-1)", x.keep(-1), BAD);
        due.is("back(2)", x.back(2), BAD);
        due.is("back(-1)", x.back(-1), BAD);
        due.is("back(1)", x.back(1), STATE);
        x.breaks(0, 0);
        x.see(0, 0, 2);
        due.is("keep(1)", x.keep(1), 0);
        due.is("count(3)", x.count(3), 1);
        due.is("back(0)", x.back(0), STATE);
        x.breaks(1, 0);
        x.year();
        due.is("keep(0)", x.keep(0), 0);
        x.quota(0, 9);
        x.carry(0, NONE);
        x.watch(0, false);
        x.time(0, 0);
        x.refuse(0, 1, false);
        x.want(0, 1, false);
        x.fund(0, 77);
        x.see(0, 0, 3);
        x.feed(32);
        x.sheet(0, 0, 7);
        due.is("back(1)", x.back(1), 0);
        due.is("DONE", x.rule(3), 5);
        due.is("BROKEN", x.broken(0, 0), 1);
        due.is("BROKEN", x.broken(1, 0), 0);
        due.is("STAND", x.rule(4), 3);
        due.is("WATCHED", x.rule(5), 1);
        due.is("QUOTA", x.law(0, 0), 1);
        due.is("CARRIES", x.law(0, 4), 1);
        due.is("TIME", x.one(0, 0), 3);
        due.is("PURSE", x.one(0, 3), 5);
        due.is("REFUSES", x.one(0, 4), 2);
        due.is("WANTS", x.one(0, 5), 2);
        due.is("SEEN", x.count(2), 1);
        due.is("THE TAPE stays", x.count(4), 1);
        due.is("SHEETS stay", x.count(5), 7);
        x.breaks(0, 0);
        due.is("back(1) once more", x.back(1), 0);
        due.is("an IMAGE is no part of what is", x.broken(0, 0), 1);
        due.is("back(0)", x.back(0), 1);
        due.is("STAND", x.rule(4), 1);
        due.is("keep(1) over another", x.keep(1), 1);
        due.is("back(1)", x.back(1), 1);
        due.is("count(3)", x.count(3), 2);
    }

    private static void sheets() {
        QuotaLaws x = new QuotaLaws();
        due.is("sheet(-1, 0, 1)", x.sheet(-1, 0, 1), BAD);
        due.is("sheet(4, 0, 1)", x.sheet(4, 0, 1), BAD);
        due.is("sheet(0, 3, 1)", x.sheet(0, 3, 1), BAD);
        due.is("sheet(0, -1, 1)", x.sheet(0, -1, 1), BAD);
        due.is("sheet(0, 0, 41)", x.sheet(0, 0, 41), BAD);
        due.is("sheet(0, 0, -1)", x.sheet(0, 0, -1), -14);
        due.is("sheet(0, 0, MIN)", x.sheet(0, 0, Integer.MIN_VALUE), -14);
        due.is("sheet(4, 0, -1)", x.sheet(4, 0, -1), BAD);
        due.is("sheet(0, 3, -1)", x.sheet(0, 3, -1), BAD);
        due.is("nothing yet", x.count(5), NONE);
        due.is("sheet(0, 2, 40)", x.sheet(0, 2, 40), 1);
        due.is("count(5)", x.count(5), 40);
        due.is("sheet(0, 0, -1) refused", x.sheet(0, 0, -1), -14);
        due.is("count(5)", x.count(5), 40);
        due.is("sheet(3, 0, 0)", x.sheet(3, 0, 0), 1);
        due.is("lay(4, 0, 0)", x.lay(4, 0, 0), BAD);
        due.is("lay(-1, 0, 0)", x.lay(-1, 0, 0), BAD);
        due.is("lay(1, 0, 0)", x.lay(1, 0, 0), -11);
        due.is("lay(1, -1, 0)", x.lay(1, -1, 0), -11);
        due.is("lay(3, 0, 0)", x.lay(3, 0, 0), -12);
        due.is("lay(0, -1, 0)", x.lay(0, -1, 0), -12);
        due.is("lay(0, 40, 0)", x.lay(0, 40, 0), -12);
        due.is("lay(0, 39, 0)", x.lay(0, 39, 0), 1);
        due.is("sheet(0, 2, 0)", x.sheet(0, 2, 0), 1);
        due.is("count(5)", x.count(5), 0);
        due.is("lay(0, 0, 0)", x.lay(0, 0, 0), -12);
    }

    private static void lanes() {
        for (int lane = 0; lane < 3; lane++) {
            QuotaLaws x = Due.told("law 9 3 0 0;law 9 3 0 0;one 5 0 0 0;");
            x.sheet(2, lane, 2);
            x.lay(2, 1, 1);
            due.is("lane " + lane, x.read(2, lane, 0, 1), 1);
            due.is("lane " + lane, x.broken(0, 1), 1);
            x.lay(2, 0, 256);
            due.is("256 in lane " + lane, x.read(2, lane, 0, 1), lane == 0 ? 1 : -20);
            x.lay(2, 0, 65536);
            due.is("65536 in lane " + lane, x.read(2, lane, 0, 1), lane < 2 ? 1 : -20);
            x.lay(2, 0, 255);
            due.is("255 in lane " + lane, x.read(2, lane, 0, 1), -20);
            x.sheet(2, lane, 2);
            due.is("new CELLS are 0", x.read(2, lane, 0, 1), 1);
            due.is("new CELLS are 0", x.broken(0, 0), 1);
        }
    }

    private static void reading() {
        QuotaLaws x = Due.told("law 9 3 2 4;law 9 3 1 0;one 5 0 0 9;one 2 0 0 0;watch 0;");
        x.sheet(1, 1, 40);
        due.is("read(4, 1, 0, 1)", x.read(4, 1, 0, 1), BAD);
        due.is("read(-1, 1, 0, 1)", x.read(-1, 1, 0, 1), BAD);
        due.is("read(1, 3, 0, 1)", x.read(1, 3, 0, 1), BAD);
        due.is("read(1, -1, 0, 1)", x.read(1, -1, 0, 1), BAD);
        due.is("read(1, 1, 0, -1)", x.read(1, 1, 0, -1), BAD);
        due.is("read(1, 1, 0, 21)", x.read(1, 1, 0, 21), BAD);
        due.is("read none", x.read(1, 1, 0, 0), 0);
        due.is("the PURSE ends it", x.read(1, 1, 0, 20), -22);
        due.is("then none came", x.count(1), 0);
        due.is("then none was paid", x.one(0, 3), 9);
        due.is("then no harm", x.rule(3), 0);
        x.lay(1, 4, 1);
        x.lay(1, 5, 1);
        x.lay(1, 6, 1);
        x.lay(1, 7, 1);
        due.is("four come", x.read(1, 1, 0, 4), 4);
        due.is("broken(0, 0)", x.broken(0, 0), 2);
        due.is("broken(1, 1)", x.broken(1, 1), 2);
        due.is("PURSE", x.one(0, 3), 1);
        due.is("DONE", x.rule(3), 6);
        due.is("from CELL 4 on", x.read(1, 1, 4, 1), -20);
        x.time(1, 5);
        due.is("from CELL 5 on: (1, 1), (1, 0)", x.read(1, 1, 5, 2), -21);
        due.is("from CELL 5 on: (1, 1)", x.read(1, 1, 5, 1), 1);
        x.lay(1, 38, 7);
        due.is("no such ONE", x.read(1, 1, 38, 1), -20);
        x.lay(1, 38, 0);
        x.lay(1, 39, -1);
        due.is("no such LAW", x.read(1, 1, 38, 1), -20);
    }

    private static void tornSheets() {
        QuotaLaws x = Due.told("law 9 3 0 0;law 9 3 0 0;one 5 0 0 0;one 5 0 0 0;");
        x.sheet(0, 2, 5);
        due.is("torn() at first", x.torn(), 0);
        due.is("two are whole", x.read(0, 2, 0, 3), 2);
        due.is("INDEX", x.torn(), 2);
        due.is("two came", x.broken(0, 0), 2);
        due.is("another lane", x.read(0, 0, 0, 1), 0);
        due.is("CAST", x.torn(), 3);
        due.is("refused", x.read(0, 2, 0, 3), -21);
        due.is("a refused read() did not come to an end", x.torn(), 3);
        due.is("BAD", x.read(9, 2, 0, 3), BAD);
        due.is("nor did this", x.torn(), 3);
        due.is("nothing", x.read(3, 2, 0, 1), 0);
        due.is("NULL", x.torn(), 1);
        due.is("NULL ahead of INDEX", x.read(3, 2, -1, 1), 0);
        due.is("NULL ahead of INDEX", x.torn(), 1);
        due.is("CAST ahead of INDEX", x.read(0, 1, 77, 1), 0);
        due.is("CAST ahead of INDEX", x.torn(), 3);
        due.is("one comes", x.read(0, 2, 0, 1), 1);
        due.is("whole", x.torn(), 0);
        int[] far = {-1, -2, 4, 5, 40, Integer.MAX_VALUE, Integer.MAX_VALUE - 1, Integer.MIN_VALUE};
        for (int f : far) {
            x.read(0, 2, 0, 0);
            due.is("torn() before " + f, x.torn(), 0);
            due.is("read from " + f, x.read(0, 2, f, 20), 0);
            due.is("torn() from " + f, x.torn(), 2);
            due.is("none read from " + f, x.read(0, 2, f, 0), 0);
            due.is("torn() of none read", x.torn(), 0);
        }
        due.is("no more came", x.count(1), 3);
        due.is("a refused one ahead of the tear", x.read(0, 2, 0, 20), -20);
        due.is("torn() as it was", x.torn(), 0);
    }

    private static void counts() {
        QuotaLaws x = Due.told("law 5 3 0 0;law 0 3 0 0;law 4 3 0 0;one 5 0 0 50;one 5 0 0 49;");
        x.breaks(0, 0);
        x.breaks(1, 0);
        x.breaks(1, 1);
        x.see(1, 0, 4);
        x.keep(1);
        x.feed(65);
        x.feed(66);
        x.sheet(0, 0, 9);
        int[] counts = {3, 3, 1, 1, 2, 9, 99, 7};
        for (int what = 0; what < 8; what++) {
            due.is("count(" + what + ")", x.count(what), counts[what]);
        }
        due.is("count(8)", x.count(8), BAD);
        due.is("count(-1)", x.count(-1), BAD);
        x.year();
        due.is("one STANDS", x.count(0), 1);
        due.is("nothing is BROKEN", x.count(1), 0);
        due.is("no NEED", x.count(7), 0);
    }
}
