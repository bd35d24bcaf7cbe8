import java.util.ArrayList;
import java.util.List;
import java.util.function.Supplier;
import java.util.function.ToIntFunction;

/** "Nothing happens": two objects made alike, of which one got a call more, answer all that can be asked alike. */
final class Twins {
    /** Fact 0 is so, fact 1 not; 0 knows both, 1 nothing, 2 fact 0. */
    static final String TOWN = "facts 2 1;person 3;person 0;person 1;trust 1 0 3;trust 2 1 8;street 0 1;street 1 2;"
            + "if 0 0 1 1;harm 1 1 4;harm 0 0 6;child 2;correct";

    private Twins() {
    }

    /** An object with something of all that can be there: the second day, acts, images 0 and 2, bytes on the tape. */
    static DailyLie lively() {
        DailyLie x = Check.byCharter(TOWN, "lie said = 0 and hearer > 0;say 1 + fact + said if heard = 2");
        Check.rule(x, "say harm + 1");
        x.seed(4711);
        x.say(0, 1, 0, 0);
        x.say(2, 1, 1, 0);
        x.hour();
        x.stated(0, 0, 1);
        x.stated(1, 1, 1);
        x.tale(2, true);
        x.image(0);
        x.tale(4, false);
        x.midnight();
        x.meet(0, 1);
        x.say(1, 2, 1, 0);
        x.image(2);
        x.hour();
        x.say(1, 2, 1, 0);
        x.hour();
        x.say(1, 2, 1, 1);
        Check.tape(x, "facts 1 1;person 1");
        return x;
    }

    static void nothingHappens(String call, int want, ToIntFunction<DailyLie> refused) {
        nothingHappens(call, want, refused, Twins::lively);
    }

    static void nothingHappens(String call, int want, ToIntFunction<DailyLie> refused, Supplier<DailyLie> made) {
        DailyLie one = made.get();
        Check.due(call, refused.applyAsInt(one), want);
        same("behind " + call, one, made.get());
    }

    static void same(String when, DailyLie one, DailyLie other) {
        List<Integer> got = everything(one);
        List<Integer> want = everything(other);
        Check.due(when + ", how much can be asked", got.size(), want.size());
        for (int i = 0; i < Math.min(got.size(), want.size()); i++) {
            Check.due(when + ", question " + i, got.get(i), want.get(i));
        }
    }

    /** First what can be asked, then what only shows when acts are undone, rules run, images gone back to. */
    private static List<Integer> everything(DailyLie x) {
        List<Integer> all = new ArrayList<>();
        counts(x, all);
        for (int one = 0; one < x.count(2); one++) {
            person(x, one, all);
        }
        for (int what = 0; what < 5; what++) {
            all.add(x.truths(what));
        }
        for (int what = 0; what < 2; what++) {
            all.add(x.breach(what));
            all.add(x.schedules(10, 3, what));
            all.add(x.schedules(4, 1, what));
            all.add(x.ask(what));
            all.add(x.years(2, 2, what));
        }
        undoAll(x, all);
        for (int rule = 0; rule < x.count(4); rule++) {
            all.add(x.run(rule, 5));
        }
        counts(x, all);
        for (int k = 0; k < 4; k++) {
            all.add(x.back(k));
            all.add(x.count(9));
            all.add(x.count(10));
            all.add(x.count(11));
            all.add(x.undo());
        }
        all.add(x.town());
        counts(x, all);
        return all;
    }

    private static void counts(DailyLie x, List<Integer> all) {
        for (int what = 0; what < 15; what++) {
            all.add(x.count(what));
        }
    }

    private static void person(DailyLie x, int one, List<Integer> all) {
        for (int what = 0; what < 5; what++) {
            all.add(x.person(one, what));
        }
        for (int fact = 0; fact < x.count(0); fact++) {
            all.add(x.holds(one, fact, 0));
            all.add(x.holds(one, fact, 1));
            all.add(x.holds(one, fact, 2));
        }
        for (int other = 0; other < x.count(2); other++) {
            all.add(x.trust(one, other));
            all.add(x.would(one, other, 0, 0));
            all.add(x.leastLie(one, other, 1));
        }
    }

    private static void undoAll(DailyLie x, List<Integer> all) {
        for (int left = x.undo(); left >= 0; left = x.undo()) {
            all.add(left);
            all.add(x.count(6));
            all.add(x.count(7));
            all.add(x.count(8));
            all.add(x.count(9));
        }
    }
}
