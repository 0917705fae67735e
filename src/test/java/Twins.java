import java.util.ArrayList;
import java.util.List;
import java.util.function.BiConsumer;
import java.util.function.Supplier;
import java.util.function.ToLongFunction;

/** Two objects made alike: a refused call on one of them must not show in anything that both answer later. */
final class Twins {
    private static final List<BiConsumer<QuotaLaws, List<String>>> PROBES =
            List.of(Twins::askAll, Twins::askImages, Twins::askSheets, Twins::askTape, Twins::askRoom);

    private final Due due;

    Twins(Due due) {
        this.due = due;
    }

    /** A probe changes what it asks, so each has twins of its own. */
    void refused(String call, Supplier<QuotaLaws> made, ToLongFunction<QuotaLaws> step, long want) {
        for (BiConsumer<QuotaLaws, List<String>> probe : PROBES) {
            QuotaLaws touched = made.get();
            QuotaLaws plain = made.get();
            due.is(call, step.applyAsLong(touched), want);
            List<String> got = new ArrayList<>();
            List<String> wanted = new ArrayList<>();
            probe.accept(touched, got);
            probe.accept(plain, wanted);
            due.holds(call + " changed " + firstThatDiffers(got, wanted), got.equals(wanted));
        }
    }

    private static String firstThatDiffers(List<String> got, List<String> wanted) {
        for (int i = 0; i < Math.min(got.size(), wanted.size()); i++) {
            if (!got.get(i).equals(wanted.get(i))) {
                return got.get(i) + ", not " + wanted.get(i);
            }
        }
        return "nothing";
    }

    private static void note(List<String> to, String call, long answer) {
        to.add(call + " = " + answer);
    }

    /** All that can be asked without a change. */
    private static void askAll(QuotaLaws x, List<String> to) {
        askState(x, to);
        for (int l = 0; l < 5; l++) {
            note(to, "kill " + l, x.kill(l, 0));
            note(to, "kill set " + l, x.kill(l, 1));
            note(to, "luck " + l, x.luck(l, 0));
            note(to, "luck by " + l, x.luck(l, 1));
        }
        for (int p = 0; p < 3; p++) {
            note(to, "more " + p, x.more(p));
            note(to, "selfish " + p, x.selfish(p));
            for (int l = 0; l < 5; l++) {
                note(to, "entry " + p + " " + l, x.entry(p, l, 0));
                note(to, "entry most " + p + " " + l, x.entry(p, l, 1));
                note(to, "rota " + p + " " + l, x.rota(10 + 3 * l + p));
            }
        }
        note(to, "rota", x.rota(0));
        note(to, "together", x.together(1));
        note(to, "most", x.most(0));
        note(to, "most how many", x.most(1));
        note(to, "wild", x.wild(11, 60, 0));
        note(to, "wild falls", x.wild(11, 60, 1));
    }

    private static void askState(QuotaLaws x, List<String> to) {
        for (int what = 0; what < 8; what++) {
            note(to, "rule " + what, x.rule(what));
            note(to, "count " + what, x.count(what));
            for (int p = 0; p < 3; p++) {
                note(to, "one " + p + " " + what, x.one(p, what));
            }
            for (int l = 0; l < 5; l++) {
                note(to, "law " + l + " " + what, x.law(l, what));
            }
        }
        for (int p = 0; p < 3; p++) {
            for (int l = 0; l < 5; l++) {
                note(to, "broken " + p + " " + l, x.broken(p, l));
            }
        }
        note(to, "fault", x.fault());
        note(to, "torn", x.torn());
        note(to, "falls", x.falls());
        note(to, "books", x.books());
    }

    private static void askImages(QuotaLaws x, List<String> to) {
        for (int k = 0; k < 2; k++) {
            note(to, "back " + k, x.back(k));
            askState(x, to);
        }
    }

    /** A cell shows by what a breaking of it answers, the lane by which lane is no FAULT. */
    private static void askSheets(QuotaLaws x, List<String> to) {
        for (int k = 0; k < 4; k++) {
            for (int lane = 0; lane < 3; lane++) {
                note(to, "read none " + k + " " + lane, x.read(k, lane, 0, 0));
                note(to, "torn " + k + " " + lane, x.torn());
                for (int f = 0; f < 6; f++) {
                    note(to, "read " + k + " " + lane + " " + f, x.read(k, lane, f, 1));
                    note(to, "torn " + k + " " + lane + " " + f, x.torn());
                }
            }
            note(to, "lay 39", x.lay(k, 39, 0));
        }
        askState(x, to);
    }

    /** The bytes that are on THE TAPE show by the text that they are. */
    private static void askTape(QuotaLaws x, List<String> to) {
        note(to, "text", x.text());
        askState(x, to);
    }

    /** What is full, and of what there is room for more. */
    private static void askRoom(QuotaLaws x, List<String> to) {
        for (int i = 0; i < 9; i++) {
            note(to, "see " + i, x.see(1, 0, 1));
        }
        note(to, "feed", x.feed(59));
        note(to, "end", x.end(0));
        note(to, "year", x.year());
        askState(x, to);
    }
}
