/** Promises 17 to 29: what follows from it all, who lies, schedules, years by draws. */
public final class AnswerPromises {
    private static final int[] ODD = {-2, 2, 7, 8, 31, 32, 33, 1000, Integer.MAX_VALUE, Integer.MIN_VALUE};

    public static void main(String[] args) {
        breach();
        tellers();
        leastLie();
        evening();
        walls();
        leak();
        stated();
        truths();
        ask();
        tales();
        schedules();
        seed();
        years();
        yearsByCharter();
        Check.finish("promises 17 to 29");
    }

    private static void breach() {
        DailyLie x = Check.inTown("facts 1 1;person 0;person 0;person 0;street 0 1;street 1 2");
        Check.due("none yet", x.breach(0), -2);
        x.hour();
        x.say(0, 1, 0, 0);
        x.say(1, 2, 0, 0);
        x.say(0, 1, 0, 1);
        x.hour();
        Check.due("each once", x.breach(0), -2);
        x.hour();
        x.say(1, 2, 0, 0);
        Check.due("its hour", x.breach(0), 3);
        Check.due("who", x.breach(1), 2);
        x.hour();
        x.say(0, 1, 0, 0);
        x.say(1, 2, 0, 0);
        Check.due("the first stays", x.breach(0), 3);
        Check.due("the first stays", x.breach(1), 2);
        x.midnight();
        Check.due("none on a new day", x.breach(0), -2);
        Check.due("none on a new day", x.breach(1), -2);
        x.say(0, 1, 0, 0);
        x.say(2, 1, 0, 0);
        Check.due("hour 0", x.breach(0), 0);
        Check.due("by two tellers", x.breach(1), 1);
        for (int odd : ODD) {
            Check.due("breach(odd)", x.breach(odd), -1);
        }
        Check.due("breach(-1)", x.breach(-1), -1);
    }

    private static void tellers() {
        DailyLie x = Check.inTown("facts 1 0");
        Check.due("nobody", x.tellers(0), 0);
        Check.due("nobody", x.tellers(1), 0);
        Check.town(x, "facts 1 0;person 0");
        Check.due("alone", x.tellers(0), -2);
        Check.due("alone", x.tellers(1), -2);
        Check.town(x, "facts 1 0;person 0;person 0;street 1 0");
        Check.due("each needs the other", x.tellers(0), 2);
        Check.due("each needs the other", x.tellers(1), 3);
        Check.town(x, "facts 1 0;person 0;person 0;person 0;person 0;street 3 0;street 3 1;street 3 2");
        Check.due("a star", x.tellers(0), 2);
        Check.due("a star", x.tellers(1), 9);
        Check.town(x, "facts 1 0;person 0;person 0;person 0;person 0;person 0;street 0 1;street 1 2;street 2 3;street 3 4");
        Check.due("a row of five", x.tellers(0), 3);
        Check.due("a row of five", x.tellers(1), 14);
        Check.town(x, "facts 1 0;person 0;person 0;person 0;person 0;street 0 1;street 1 2;street 2 3;street 3 0");
        Check.due("a ring of four", x.tellers(0), 2);
        Check.due("a ring of four", x.tellers(1), 3);
        Check.town(x, "facts 1 0;person 0;person 0;person 0;street 0 1");
        Check.due("one has no street", x.tellers(1), -2);
        for (int odd : ODD) {
            Check.due("tellers(odd)", x.tellers(odd), -1);
        }
        Check.due("tellers(-1)", x.tellers(-1), -1);
    }

    /** Fact 0 and 1 are so, 2 not; 1 knows fact 0; 2 would be harmed least by a lie of fact 1. */
    private static final String HARMS = "facts 3 3;person 0;person 1;person 0;street 0 1;street 1 2;harm 0 0 9;"
            + "harm 1 0 5;harm 2 1 5;harm 2 0 1;harm 0 1 2;if 1 0 2 0";

    private static void leastLie() {
        DailyLie x = Check.inTown(HARMS);
        // 1 knows fact 0 and is not moved: harm 2 as it is; by fact 1: 2 + 5 + 1; by fact 2: 2 + 5.
        Check.due("the fact that moves nothing", x.leastLie(0, 1, 0), 0);
        Check.due("harm then", x.leastLie(0, 1, 1), 2);
        // To 2: fact 0: 9; fact 1: 5, and 1 for fact 2 that follows; fact 2: 5.
        Check.due("what follows counts", x.leastLie(1, 2, 0), 2);
        Check.due("harm then", x.leastLie(1, 2, 1), 5);
        Check.due("no act", x.count(12), 0);
        Check.due("nothing changes", x.holds(2, 2, 0), 2);
        Check.due("no street", x.leastLie(0, 2, 0), -1);
        Check.due("alike", x.leastLie(1, 1, 0), -1);
        for (int odd : ODD) {
            Check.due("leastLie(0, 1, odd)", x.leastLie(0, 1, odd), -1);
            Check.due("leastLie(odd, 1, 0)", x.leastLie(odd == 2 ? 3 : odd, 1, 0), -1);
            Check.due("leastLie(0, odd, 0)", x.leastLie(0, odd, 0), -1);
        }
        Check.town(x, "facts 2 0;person 0;person 0;street 0 1;harm 0 1 4;harm 1 1 4");
        Check.due("of several the least", x.leastLie(0, 1, 0), 0);
        x.say(0, 1, 0, 1);
        Check.due("told already", x.leastLie(0, 1, 0), 0);
        Check.due("harm", x.leastLie(0, 1, 1), 4);
        Check.rule(x, "lie 1 = 2");
        x.charter(0);
        Check.due("whatever the charter says", x.leastLie(0, 1, 1), 4);
    }

    private static void evening() {
        DailyLie x = Check.inTown(HARMS);
        // 0 from 1: fact 2 with 5; 1 from 0 or 2: 2; 2 from 1: 5.
        Check.due("evening", x.evening(), 12);
        x.say(0, 1, 0, 0);
        Check.due("1 was lied to", x.evening(), 12);
        x.say(1, 2, 0, 0);
        Check.due("2 was lied to: 9 as it is", x.evening(), 5 + 2 + 9);
        Check.town(x, "facts 1 1;person 1;person 0;person 0;street 1 2;harm 0 1 3;harm 0 0 8;trust 1 2 0");
        x.say(2, 1, 0, 1);
        Check.due("0 has no street: 3, 1 was told the truth: 8, 2: 8", x.evening(), 19);
        x.say(1, 2, 0, 1);
        x.say(1, 2, 0, 0);
        Check.due("2 as it is", x.evening(), 19);
        Check.town(x, "facts 1 0;person 0;person 0;person 0;street 0 1;street 0 2;trust 0 1 2;trust 0 2 6;harm 0 1 50");
        x.say(2, 0, 0, 0);
        // To 0 from 1, who is not believed: 0; from 2: 50. To 1 and 2 from 0: 50 each.
        Check.due("the best teller", x.evening(), 100);
        Check.town(x, "facts 1 0");
        Check.due("nobody", x.evening(), 0);
    }

    private static void walls() {
        DailyLie x = Check.inTown("facts 1 0;person 0;person 0;person 0;person 0;person 0;street 0 1;street 1 2;"
                + "street 0 2;street 2 3");
        Check.due("a triangle", x.walls(0, 1, 0), 2);
        Check.due("a triangle", x.walls(0, 1, 1), 3);
        Check.due("1 and 2", x.walls(1, 2, 1), 3);
        Check.due("0 and 2", x.walls(2, 0, 1), 5);
        Check.due("one street", x.walls(0, 3, 0), 1);
        Check.due("one street", x.walls(0, 3, 1), 8);
        Check.due("no way", x.walls(0, 4, 0), 0);
        Check.due("no way", x.walls(0, 4, 1), 0);
        Check.due("alike", x.walls(2, 2, 0), -1);
        Check.due("what", x.walls(0, 1, 2), -1);
        Check.due("what", x.walls(0, 1, -1), -1);
        for (int odd : ODD) {
            int p = odd == 2 ? 5 : odd;
            Check.due("walls(odd, 0)", x.walls(p, 0, 0), -1);
            Check.due("walls(0, odd)", x.walls(0, p, 0), -1);
        }
        Check.town(x, "facts 1 0;person 0;person 0;person 0;street 0 1;street 1 2");
        Check.due("of two rows the least", x.walls(0, 2, 1), 1);
    }

    private static void leak() {
        DailyLie x = Check.inTown("facts 1 0" + ";person 0".repeat(7) + ";street 0 1;street 1 2;street 2 3;street 3 4;"
                + "street 4 5;street 0 3");
        Check.due("the same", x.leak(6, 6), 0);
        Check.due("a neighbour", x.leak(1, 0), 1);
        Check.due("two", x.leak(0, 2), 2);
        Check.due("by the short way", x.leak(5, 0), 3);
        Check.due("never", x.leak(0, 6), -2);
        Check.due("never", x.leak(6, 0), -2);
        for (int odd : ODD) {
            int p = odd == 2 ? -1 : odd;
            Check.due("leak(odd, 0)", x.leak(p, 0), -1);
            Check.due("leak(0, odd)", x.leak(0, p), -1);
        }
        Check.town(x, "facts 1 0" + ";person 0".repeat(7)
                + ";street 6 5;street 5 4;street 4 3;street 3 2;street 2 1;street 1 0");
        Check.due("the longest row", x.leak(0, 6), 6);
    }

    private static void stated() {
        DailyLie x = Check.inTown("facts 3 0;person 0;person 0;person 0");
        for (int odd : ODD) {
            Check.due("stated(odd, ..)", x.stated(odd == 2 ? 3 : odd, 0, 0), -2);
            Check.due("stated(.., odd, ..)", x.stated(0, odd == 2 ? 3 : odd, 0), -2);
            Check.due("stated(.., odd)", x.stated(0, 0, odd), -2);
        }
        Check.due("stated(0, -1, 0)", x.stated(0, -1, 0), -2);
        Check.due("stated(0, 0, -1)", x.stated(0, 0, -1), -2);
        Check.due("none yet", x.count(10), 0);
        for (int i = 1; i <= 12; i++) {
            Check.due("stated " + i, x.stated(i % 3, i % 2, 1), i);
        }
        Check.due("a 13th", x.stated(0, 0, 0), -2);
        Check.due("12", x.count(10), 12);
        Check.due("nothing is then", x.stated(-1, 99, 99), 0);
        Check.due("none", x.count(10), 0);
        Check.due("again", x.stated(2, 2, 0), 1);
        Check.due("without a town", new DailyLie().stated(-1, 0, 0), 0);
    }

    private static void truths() {
        DailyLie x = Check.inTown("facts 3 0;person 0;person 0;person 0");
        Check.due("all ways", x.truths(0), 8);
        x.stated(0, 0, 1);
        Check.due("one stated: all ways", x.truths(0), 8);
        x.stated(0, 1, 0);
        Check.due("both or none: half", x.truths(0), 4);
        x.stated(1, 1, 1);
        x.stated(1, 2, 1);
        Check.due("half again", x.truths(0), 2);
        x.stated(2, 2, 1);
        x.stated(2, 0, 0);
        Check.due("these fit", x.truths(0), 2);
        // With each way all told the other way round is one, too: nothing is so in all.
        for (int what = 1; what <= 4; what++) {
            Check.due("truths(" + what + ")", x.truths(what), 0);
        }
        x.stated(2, 0, 1);
        Check.due("both of one fact", x.truths(0), 0);
        for (int what = 1; what <= 4; what++) {
            Check.due("no truth, truths(" + what + ")", x.truths(what), 0);
        }
        Check.due("no truth to ask", x.ask(0), -2);
        Check.due("no truth to ask", x.ask(1), -2);
        for (int what : new int[] {-1, 5, 32, Integer.MAX_VALUE, Integer.MIN_VALUE}) {
            Check.due("truths(" + what + ")", x.truths(what), -1);
        }
        x.stated(-1, 0, 0);
        x.stated(0, 0, 1);
        x.stated(0, 1, 1);
        x.stated(0, 2, 1);
        x.stated(1, 0, 1);
        x.stated(1, 1, 0);
        Check.due("they can't be all", x.truths(0), 0);
        Check.town(x, "facts 8 0");
        Check.due("256", x.truths(0), 256);
    }

    private static void ask() {
        DailyLie x = Check.inTown("facts 2 0;person 0;person 0");
        Check.due("the least fact", x.ask(0), 0);
        Check.due("half agree", x.ask(1), 2);
        x.stated(0, 0, 0);
        x.stated(0, 1, 0);
        Check.due("the least fact", x.ask(0), 0);
        Check.due("one agrees", x.ask(1), 1);
        for (int odd : ODD) {
            Check.due("ask(odd)", x.ask(odd), -1);
        }
        Check.due("ask(-1)", x.ask(-1), -1);
    }

    private static void tales() {
        DailyLie x = new DailyLie();
        for (int place : new int[] {-2, 10, 32, Integer.MAX_VALUE, Integer.MIN_VALUE}) {
            Check.due("tale(" + place + ")", x.tale(place, true), -2);
        }
        for (int i = 0; i < 10; i++) {
            Check.due("tale(" + i + ")", x.tale(i, i == 4), i + 1);
        }
        Check.due("an 11th", x.tale(0, true), -2);
        Check.due("10", x.count(11), 10);
        Check.due("the only one", x.schedules(10, 1, 1), 16);
        Check.due("none then", x.tale(-1, true), 0);
        Check.due("0", x.count(11), 0);
        Check.due("all again", x.schedules(10, 1, 0), 10);
    }

    private static void schedules() {
        DailyLie x = new DailyLie();
        Check.due("5 over 2", x.schedules(5, 2, 0), 10);
        Check.due("none in all", x.schedules(5, 2, 1), 0);
        Check.due("10 over 5", x.schedules(10, 5, 0), 252);
        Check.due("no lies", x.schedules(4, 0, 0), 1);
        Check.due("no lies", x.schedules(4, 0, 1), 0);
        Check.due("all lies", x.schedules(4, 4, 0), 1);
        Check.due("all lies", x.schedules(4, 4, 1), 15);
        x.tale(1, true);
        x.tale(3, false);
        Check.due("two places told", x.schedules(5, 2, 0), 3);
        Check.due("in all", x.schedules(5, 2, 1), 2);
        Check.due("one lie", x.schedules(5, 1, 1), 2);
        Check.due("too few", x.schedules(5, 0, 0), 0);
        Check.due("too many", x.schedules(5, 5, 0), 0);
        Check.due("too many", x.schedules(5, 5, 1), 0);
        Check.due("4 of 5", x.schedules(5, 4, 1), 23);
        Check.due("a tale at place 3 of 3", x.schedules(3, 1, 0), 0);
        Check.due("a tale at place 3 of 4", x.schedules(4, 1, 0), 1);
        x.tale(1, true);
        Check.due("told twice", x.schedules(5, 2, 0), 3);
        x.tale(1, false);
        Check.due("told otherwise", x.schedules(5, 2, 0), 0);
        for (int n : new int[] {0, -1, 11, 32, Integer.MAX_VALUE, Integer.MIN_VALUE}) {
            Check.due("schedules(n, 0, 0)", x.schedules(n, 0, 0), -1);
        }
        Check.due("k above n", x.schedules(3, 4, 0), -1);
        Check.due("k below 0", x.schedules(3, -1, 0), -1);
        Check.due("what", x.schedules(3, 1, 2), -1);
        Check.due("what", x.schedules(3, 1, -1), -1);
    }

    private static void seed() {
        DailyLie x = new DailyLie();
        Check.due("0 at first", x.seed(5), 0);
        Check.due("what it was", x.seed(Integer.MAX_VALUE), 5);
        Check.due("below 0", x.seed(-1), -1);
        Check.due("below 0", x.seed(Integer.MIN_VALUE), -1);
        Check.due("x", x.count(13), Integer.MAX_VALUE);
        Check.due("what it was", x.seed(0), Integer.MAX_VALUE);
    }

    private static void years() {
        DailyLie x = Check.inTown("facts 1 0;person 0;person 1;harm 0 0 5");
        Check.due("without streets no lies", x.years(3, 4, 0), 0);
        Check.due("without streets nobody", x.years(3, 4, 1), 0);
        Check.due("without streets harm as it is", x.years(3, 4, 2), 15);
        for (int m : new int[] {0, -1, 11, Integer.MAX_VALUE, Integer.MIN_VALUE}) {
            Check.due("years(m, 1, 0)", x.years(m, 1, 0), -1);
        }
        for (int n : new int[] {0, -1, 21, Integer.MAX_VALUE, Integer.MIN_VALUE}) {
            Check.due("years(1, n, 0)", x.years(1, n, 0), -1);
        }
        Check.due("what", x.years(1, 1, 3), -1);
        Check.due("what", x.years(1, 1, -1), -1);
        Check.due("10 times 20 days", x.years(10, 20, 2), 50);
        // By hand: from x = 0 the first draws are 0, 21468, 9988, 22117, 3498, 16927, 16045, 19741, ...
        long[] state = {0};
        int[] first = {0, 21468, 9988, 22117, 3498, 16927, 16045, 19741};
        for (int want : first) {
            Check.due("a draw", draw(state), want);
        }
        Check.town(x, "facts 1 0;person 0;person 0;street 1 0;harm 0 1 7");
        state[0] = 12;
        x.seed(12);
        int lies = 0;
        int once = 0;
        int harm = 0;
        for (int year = 0; year < 2; year++) {
            int[] held = {2, 2};
            for (int day = 0; day < 3; day++) {
                int[] lied = {0, 0};
                for (int hour = 0; hour < 12; hour++) {
                    draw(state);
                    int hearer = 1 - draw(state) % 2;
                    draw(state);
                    int said = draw(state) % 2;
                    lies += said;
                    lied[hearer] += said;
                    held[hearer] = said;
                }
                once += (lied[0] == 1 ? 1 : 0) + (lied[1] == 1 ? 1 : 0);
            }
            harm += (held[0] == 1 ? 7 : 0) + (held[1] == 1 ? 7 : 0);
        }
        Check.due("lies", x.years(2, 3, 0), lies);
        Check.due("people by days", x.years(2, 3, 1), once);
        Check.due("harm", x.years(2, 3, 2), harm);
        Check.due("x as it was", x.count(13), 12);
        Check.due("nothing stays", x.holds(0, 0, 0), 2);
        Check.due("DAY", x.count(6), 0);
        Check.due("no act", x.count(12), 0);
    }

    private static void yearsByCharter() {
        DailyLie x = Check.inTown("facts 1 0;person 0;person 0;street 1 0;harm 0 1 7");
        Check.rule(x, "lie 1 = 1");
        Check.rule(x, "lie 1 = 2");
        Check.rule(x, "lie hour = 3 or hour = 11 or hour = 12");
        Check.rule(x, "lie day = 3 and lies = 0 and hearer = 1");
        Check.rule(x, "lie second = 1");
        x.charter(0);
        Check.due("each is a lie", x.years(2, 5, 0), 120);
        x.charter(1);
        Check.due("none is a lie", x.years(2, 5, 0), 0);
        x.charter(2);
        Check.due("two a day", x.years(3, 4, 0), 24);
        x.charter(3);
        x.midnight();
        x.say(0, 1, 0, 0);
        // From day 1 on the second of the drawn days is day 3; each time anew, and nobody was lied to at its start.
        Check.due("once in each", x.years(4, 5, 0), 4);
        Check.due("lied to just once", x.years(4, 5, 1), 4);
        x.charter(4);
        Check.due("not passed on", x.years(4, 5, 0), 0);
        Check.town(x, "facts 1 0;person 0;person 0;person 0;street 0 1;harm 0 1 7;correct");
        x.charter(-1);
        x.say(0, 1, 0, 1);
        Check.town(x, "facts 1 0;person 0;person 0;harm 0 1 7;correct");
        Check.due("corrected at midnight", x.years(1, 1, 2), 0);
    }

    private static int draw(long[] state) {
        state[0] = (state[0] * 1103515245L + 12345L) % 2147483648L;
        return (int) (state[0] / 65536);
    }
}
