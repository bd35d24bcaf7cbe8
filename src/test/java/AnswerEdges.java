import java.math.BigInteger;

/** Terms III and promises 17 to 32: what is asked, stated, told and drawn, counts and images, each with its edges. */
final class AnswerEdges {
    /** Neither 0 nor 1. */
    private static final int[] NO_WHAT = {-2, -1, 2, 3, 31, 32, 33, 64, Integer.MAX_VALUE, Integer.MIN_VALUE};
    private static final int[] NO_SUCH = LifeEdges.NO_SUCH;
    private static final String SEVEN = "facts 1 0" + ";person 0".repeat(7);

    private AnswerEdges() {
    }

    static void check() {
        Doc.terms(3);
        nothingChanges();
        tellersOfAll();
        leastLies();
        evenings();
        wallsAndLeaks();
        statedAndTruths();
        asking();
        schedulesOfLiars();
        draws();
        yearsByDraws();
        imagesOfAll();
        breach();
        tellers();
        leastLie();
        evening();
        walls();
        leak();
        stated();
        truths();
        ask();
        tale();
        schedules();
        seed();
        years();
        count();
        image();
        back();
    }

    private static void nothingChanges() {
        Check.quote("(By what is asked nothing changes.)");
        DailyLie x = Twins.lively();
        for (int what = 0; what < 2; what++) {
            x.breach(what);
            x.tellers(what);
            x.leastLie(0, 1, what);
            x.leastLie(2, 1, what);
            x.walls(0, 2, what);
            x.truths(what);
            x.ask(what);
            x.schedules(5, 2, what);
            x.years(10, 20, what);
            x.count(what);
        }
        x.evening();
        x.leak(0, 2);
        x.years(3, 7, 2);
        x.holds(1, 0, 2);
        x.person(1, 2);
        x.trust(0, 1);
        x.would(1, 2, 0, 0);
        Twins.same("behind many questions", x, Twins.lively());
    }

    private static void both(String call, int number, int set, int wantNumber, int wantSet) {
        Check.due(call + ", how many", number, wantNumber);
        Check.due(call + ", the set", set, wantSet);
    }

    private static void tellersDue(String town, int number, int set) {
        DailyLie x = Check.inTown(town);
        both("tellers in " + town, x.tellers(0), x.tellers(1), number, set);
    }

    private static void tellersOfAll() {
        Check.quote("TELLERS: the fewest PEOPLE so that each PERSON has a STREET to one of them");
        tellersDue("facts 1 0;person 0;person 0;street 0 1", 2, 3);
        tellersDue(SEVEN + ";street 6 0;street 6 1;street 6 2;street 6 3;street 6 4;street 6 5", 2, 65);
        // In a row of seven 1 and 5 are for the ends, 0 or 2 for 1, 4 or 6 for 5, 2 or 4 for 3.
        tellersDue(SEVEN + ";street 0 1;street 1 2;street 2 3;street 3 4;street 4 5;street 5 6", 4, 1 + 2 + 16 + 32);
        tellersDue("facts 1 0" + ";person 0".repeat(6) + ";street 0 1;street 2 3;street 4 5", 6, 63);
        tellersDue("facts 1 0", 0, 0);
        Check.quote("of several the least as bits");
        tellersDue("facts 1 0;person 0;person 0;person 0;street 0 1;street 1 2;street 2 0", 2, 3);
        tellersDue("facts 1 0;person 0;person 0;person 0;person 0;street 0 2;street 2 1;street 1 3;street 3 0", 2, 5);
    }

    private static void leastLieDue(String town, int fact, int harm) {
        DailyLie x = Check.inTown(town);
        both("leastLie in " + town, x.leastLie(0, 1, 0), x.leastLie(0, 1, 1), fact, harm);
    }

    private static void leastLies() {
        String two = ";person 0;person 0;street 0 1";
        Check.quote("LEAST LIE to a PERSON from a teller: of FACTS told as they are not, by which the hearer's HARM is least "
                + "then; of several the least FACT.");
        leastLieDue("facts 3 0" + two + ";harm 0 1 9;harm 1 1 8;harm 2 1 7", 2, 7);
        leastLieDue("facts 3 7" + two + ";harm 0 0 9;harm 1 0 7;harm 2 0 8;harm 1 1 50", 1, 7);
        leastLieDue("facts 3 0" + two + ";harm 0 1 9;harm 1 1 8;harm 2 1 8", 1, 8);
        leastLieDue("facts 8 0" + two, 0, 0);
        leastLieDue("facts 1 0" + two + ";harm 0 1 99", 0, 99);
        // What follows from it counts, and so does what they believe already.
        leastLieDue("facts 3 0" + two + ";harm 0 1 1;harm 1 1 3;harm 2 1 9;if 0 1 2 1", 1, 3);
        leastLieDue("facts 3 0;person 0;person 4;street 0 1;harm 0 1 3;harm 1 1 4;harm 2 0 10", 2, 10);
        // Harm grows less when what was believed is given up.
        DailyLie x = Check.inTown("facts 2 1" + two + ";harm 0 1 20;harm 0 0 2;harm 1 1 1");
        x.say(0, 1, 0, 1);
        both("a truth given up", x.leastLie(0, 1, 0), x.leastLie(0, 1, 1), 0, 2);
        // The hearer's trust decides: 4 is below what they heard from 2 with 5, and not below what they heard with 4.
        for (int trust = 4; trust <= 5; trust++) {
            DailyLie y = Check.inTown("facts 1 1;person 0;person 0;person 0;street 0 1;street 1 2;trust 1 0 4;trust 1 2 "
                    + trust + ";harm 0 1 9;harm 0 0 1");
            y.say(2, 1, 0, 1);
            Check.due("with trust " + trust, y.leastLie(0, 1, 1), trust == 4 ? 1 : 9);
        }
    }

    private static void evenings() {
        Check.quote("EVENING: of all PEOPLE, not lied to yet that DAY, the HARM they do behind the LEAST LIE of the teller "
                + "(of those to whom there is a STREET) by which it is least");
        String three = "facts 1 0;person 0;person 0;person 0;street 0 1;street 1 2;harm 0 1 10;harm 0 0 1";
        DailyLie x = Check.inTown(three);
        Check.due("three lies", x.evening(), 30);
        // 1 hears the truth from 0 with 7, 2 has 3 alone: the lie of 2 leaves 1 with harm 1.
        DailyLie y = Check.inTown(three + ";trust 1 0 7;trust 1 2 3");
        y.say(0, 1, 0, 0);
        Check.due("the best teller", y.evening(), 10 + 1 + 10);
        // 0 would believe nothing that 2 says, but there is no street between them: the lie is told by 1.
        DailyLie apart = Check.inTown(three + ";trust 0 2 0");
        apart.say(1, 0, 0, 0);
        Check.due("only along streets", apart.evening(), 30);
        Check.quote("(without one: their HARM as it is)");
        DailyLie alone = Check.inTown("facts 1 0;person 1;person 0;person 0;street 1 2;harm 0 0 4;harm 0 1 9");
        Check.due("0 has no street", alone.evening(), 4 + 9 + 9);
        Check.due("nobody has a street", Check.inTown("facts 1 0;person 1;person 0;harm 0 0 4").evening(), 4);
        Check.due("nobody", Check.inTown("facts 1 0;harm 0 0 4").evening(), 0);
        Check.quote("and of the others their HARM, together.");
        x.say(0, 1, 0, 1);
        Check.due("one was lied to", x.evening(), 30);
        x.say(0, 1, 0, 0);
        Check.due("and knows better by now", x.evening(), 10 + 1 + 10);
        x.midnight();
        Check.due("not yet on a new day", x.evening(), 30);
        DailyLie charter = Check.byCharter(three, "lie said = 0");
        charter.say(0, 1, 0, 0);
        Check.due("lied to by the charter", charter.evening(), 10 + 1 + 10);
    }

    private static void wallsDue(DailyLie x, int one, int other, int number, int set) {
        String call = "walls(" + one + ", " + other + ")";
        both(call, x.walls(one, other, 0), x.walls(one, other, 1), number, set);
        both(call + " the other way", x.walls(other, one, 0), x.walls(other, one, 1), number, set);
    }

    private static void wallsAndLeaks() {
        Check.quote("WALLS between two: the fewest STREETS without which there is no way from one to the other one by STREETS");
        DailyLie all = Check.inTown("facts 1 0" + ";person 0".repeat(5) + ";street 0 1;street 0 2;street 0 3;street 0 4;"
                + "street 1 2;street 1 3;street 1 4;street 2 3;street 2 4;street 3 4");
        wallsDue(all, 0, 4, 4, 15);
        wallsDue(all, 3, 4, 4, 4 + 32 + 128 + 512);
        DailyLie row = Check.inTown(SEVEN + ";street 5 6;street 4 5;street 3 4;street 2 3;street 1 2");
        wallsDue(row, 1, 6, 1, 1);
        wallsDue(row, 1, 2, 1, 16);
        wallsDue(row, 0, 6, 0, 0);
        wallsDue(Check.inTown("facts 1 0;person 0;person 0"), 0, 1, 0, 0);
        Check.quote("of several the least as bits");
        DailyLie ring = Check.inTown("facts 1 0;person 0;person 0;person 0;person 0;street 2 3;street 3 0;street 0 1;street 1 2");
        wallsDue(ring, 0, 2, 2, 5);
        wallsDue(ring, 0, 1, 2, 5);
        wallsDue(ring, 2, 3, 2, 3);
        Check.quote("LEAK: HOURS until what one knows comes to another one, if in each all who know it tell all along STREETS.");
        for (int from = 1; from < 7; from++) {
            for (int to = 1; to < 7; to++) {
                Check.due("along a row", row.leak(from, to), Math.abs(from - to));
            }
        }
        DailyLie longest = Check.inTown(SEVEN + ";street 0 1;street 1 2;street 2 3;street 3 4;street 4 5;street 5 6");
        Check.due("the longest row", longest.leak(0, 6), 6);
        Check.due("the longest row", longest.leak(6, 0), 6);
        Check.due("by the shorter way", ring.leak(0, 2), 2);
        Check.due("at once along a street", all.leak(4, 3), 1);
    }

    private static void statedAndTruths() {
        Check.quote("STATED, 12 at most: that a PERSON stated that a FACT is so, or not.");
        DailyLie x = Check.inTown("facts 2 0;person 0;person 0;person 0");
        for (int i = 1; i <= 12; i++) {
            Check.due("stated", x.stated(0, 0, 1), i);
        }
        Check.due("a 13th", x.stated(0, 0, 1), -2);
        Check.due("the same twelve times", x.truths(0), 4);
        Check.quote("Each PERSON who STATED something always states what is not so, or never does.");
        x.stated(-1, 0, 0);
        x.stated(0, 0, 1);
        Check.due("one thing stated", x.truths(0), 4);
        x.stated(0, 1, 1);
        Check.due("both so, or none", x.truths(0), 2);
        x.stated(1, 0, 0);
        Check.due("another one's", x.truths(0), 2);
        x.stated(1, 1, 1);
        Check.due("both can't be", x.truths(0), 0);
        Check.quote("TRUTHS: of all 2 to the FACTS ways that FACTS are so or not, those in which each PERSON's STATED are all "
                + "as it is, or all not: how many");
        for (int facts = 1; facts <= 8; facts++) {
            DailyLie y = Check.inTown("facts " + facts + " 0;person 0");
            Check.due("all ways", y.truths(0), 1 << facts);
            for (int fact = 0; fact < facts; fact++) {
                y.stated(0, fact, fact % 2);
                Check.due("half of them with each fact", y.truths(0), 1 << facts - fact);
            }
            y.stated(0, 0, 1);
            Check.due("so and not so", y.truths(0), 0);
        }
        // With each way the one in which all is turned round is a truth, too: nothing is so, or lies, in all.
        DailyLie z = Check.inTown("facts 2 3;person 0;person 0;person 0");
        z.stated(0, 0, 1);
        z.stated(0, 1, 1);
        z.stated(1, 0, 0);
        Check.quote("; FACTS that are so in all, not so in all, as bits");
        Check.due("so in all", z.truths(1), 0);
        Check.due("not so in all", z.truths(2), 0);
        Check.quote("; PEOPLE who lie in all, who never do, of those who STATED something.");
        Check.due("lie in all", z.truths(3), 0);
        Check.due("never do", z.truths(4), 0);
    }

    private static void asking() {
        Check.quote("ASK: the FACT by which these TRUTHS part best: the most that agree in it are fewest, of several the least.");
        DailyLie x = Check.inTown("facts 8 0;person 0");
        for (int fact = 0; fact < 8; fact++) {
            both("ask", x.ask(0), x.ask(1), 0, 128 >> Math.max(0, fact - 1));
            x.stated(0, fact, 1);
        }
        both("ask", x.ask(0), x.ask(1), 0, 1);
    }

    private static void schedulesOfLiars() {
        Check.quote("SCHEDULES: a liar tells n things a DAY (1 to 10), just k of them lies (0 to n), each DAY at the same "
                + "places (0 to n less 1).");
        int[][] ways = new int[11][11];
        DailyLie x = new DailyLie();
        for (int n = 0; n <= 10; n++) {
            for (int k = 0; k <= n; k++) {
                ways[n][k] = k == 0 || k == n ? 1 : ways[n - 1][k - 1] + ways[n - 1][k];
                if (n > 0) {
                    Check.due("schedules(" + n + ", " + k + ", 0)", x.schedules(n, k, 0), ways[n][k]);
                    Check.due("schedules(" + n + ", " + k + ", 1)", x.schedules(n, k, 1), k == n ? (1 << n) - 1 : 0);
                }
            }
            Check.due("k above n", x.schedules(n, n + 1, 0), -1);
        }
        Check.quote("TALES, 10 at most, told: that what was told at a place was a lie, or was none.");
        for (int i = 1; i <= 10; i++) {
            Check.due("tale", x.tale(9, true), i);
        }
        Check.due("an 11th", x.tale(9, true), -2);
        Check.quote("How many sets of places fit all TALES; places that are lies in all, as bits.");
        both("place 9 is one", x.schedules(10, 3, 0), x.schedules(10, 3, 1), 36, 512);
        both("place 9 alone", x.schedules(10, 1, 0), x.schedules(10, 1, 1), 1, 512);
        both("no lies", x.schedules(10, 0, 0), x.schedules(10, 0, 1), 0, 0);
        x.tale(-1, true);
        x.tale(0, false);
        x.tale(3, true);
        both("one told, one not", x.schedules(4, 2, 0), x.schedules(4, 2, 1), 2, 8);
        both("all but one", x.schedules(4, 3, 0), x.schedules(4, 3, 1), 1, 14);
        both("all", x.schedules(4, 4, 0), x.schedules(4, 4, 1), 0, 0);
        x.tale(3, false);
        both("a lie and none", x.schedules(4, 2, 0), x.schedules(4, 2, 1), 0, 0);
    }

    /** 1 by a charter that finds a lie in the drawn saying of an hour alone, if it is just this one. */
    private static void drawn(int seed, int hour, String saying) {
        DailyLie x = Check.byCharter("facts 8 0;person 0;person 0;person 0;person 0;street 3 1;street 0 2;street 2 1",
                "lie day = 1 and hour = " + hour + " and " + saying);
        x.seed(seed);
        Check.due("years by " + saying, x.years(1, 1, 0), 1);
    }

    private static void draws() {
        Check.quote("DRAWS: x (0 to 2147483647; 0 at first) becomes x * 1103515245 + 12345, of 2147483648 the rest; "
                + "a DRAW is x / 65536.");
        Check.due("0 at first", new DailyLie().count(13), 0);
        // From 0 on the draws are 0, 21468, 9988, 22117; 3498, 16927, 16045, 19741.
        drawn(0, 0, "teller = 1 and hearer = 3 and fact = 4 and said = 1");
        drawn(0, 1, "teller = 3 and hearer = 1 and fact = 5 and said = 1");
        // From the greatest x on, worked out with numbers that never go round.
        int[] last = bigDraws(Integer.MAX_VALUE, 4);
        Check.due("the first draw", last[0], 15929);
        String[] lesser = {"1", "0", "1"};
        String[] greater = {"3", "2", "2"};
        boolean lesserTells = last[1] % 2 == 0;
        drawn(Integer.MAX_VALUE, 0, "teller = " + (lesserTells ? lesser : greater)[last[0] % 3] + " and hearer = "
                + (lesserTells ? greater : lesser)[last[0] % 3] + " and fact = " + last[2] % 8 + " and said = " + last[3] % 2);
    }

    private static int[] bigDraws(int seed, int n) {
        BigInteger x = BigInteger.valueOf(seed);
        int[] draws = new int[n];
        for (int i = 0; i < n; i++) {
            x = x.multiply(BigInteger.valueOf(1103515245)).add(BigInteger.valueOf(12345)).mod(BigInteger.ONE.shiftLeft(31));
            draws[i] = x.divide(BigInteger.valueOf(65536)).intValue();
        }
        return draws;
    }

    private static void yearsByDraws() {
        String two = "facts 1 0;person 0;person 0;street 1 0;harm 0 1 7;harm 0 0 2";
        Check.quote("YEARS m times (1 to 10) n DAYS (1 to 20) from MIDNIGHT on (one ahead of each DAY): on each for each HOUR "
                + "0 to 11 a DRAW mod STREETS, a DRAW mod 2 (0: the lesser one of that STREET tells), a DRAW mod FACTS, "
                + "a DRAW mod 2 (what is said): a SAYING by the CHARTER");
        DailyLie x = Check.byCharter(two, "lie 1 = 1");
        Check.due("the least", x.years(1, 1, 0), 12);
        Check.due("the most", x.years(10, 20, 0), 2400);
        Check.rule(x, "lie hour = 0 and day = 1");
        Check.rule(x, "lie hour = 11 and day = 20");
        Check.rule(x, "lie hour > 11 or day = 0 or day > 20 or second = 1");
        x.charter(1);
        Check.due("the first hour of the first day", x.years(10, 20, 0), 10);
        x.charter(2);
        Check.due("the last hour of the last day", x.years(10, 20, 0), 10);
        Check.due("not on day 19", x.years(10, 19, 0), 0);
        x.charter(3);
        Check.due("no other hour or day", x.years(10, 20, 0), 0);
        x.midnight();
        x.charter(2);
        Check.due("from the next day on", x.years(10, 19, 0), 10);
        Check.quote(": LIES, how many PEOPLE were lied to just once on a DAY (DAY by DAY), HARM of all at the end, all together");
        DailyLie y = Check.byCharter(two, "lie hour = 5");
        y.say(0, 1, 0, 1);
        Check.due("a lie a day", y.years(3, 4, 0), 12);
        Check.due("once on each day", y.years(3, 4, 1), 12);
        DailyLie z = Check.byCharter(two, "lie hour <= 11 and lies < 2");
        Check.due("each is lied to twice each day", z.years(1, 1, 0), 4);
        Check.due("nobody just once", z.years(1, 1, 1), 0);
        DailyLie known = Check.inTown("facts 1 0;person 1;person 1;person 1;street 1 0;harm 0 0 2");
        Check.due("harm of all at the end of each", known.years(10, 3, 2), 60);
        DailyLie corrected = Check.inTown("facts 1 0;person 0;person 0;person 0;street 0 1;street 1 2;harm 0 1 7;correct");
        corrected.say(1, 2, 0, 1);
        Check.due("the midnight ahead of the first day corrects", harmAtEnd(corrected), corrected.years(1, 1, 2));
        Check.quote("(without STREETS nobody says anything, and nothing is drawn; nothing stays; x as it was).");
        DailyLie alone = Check.byCharter("facts 1 0;person 1;person 0;harm 0 0 3", "lie 1 = 1");
        Check.due("no lies", alone.years(10, 20, 0), 0);
        Check.due("nobody", alone.years(10, 20, 1), 0);
        Check.due("harm", alone.years(10, 20, 2), 30);
        Check.due("no people", Check.inTown("facts 1 0").years(10, 20, 2), 0);
        for (int what = 0; what < 3; what++) {
            int w = what;
            int answer = Twins.lively().years(2, 5, w);
            Twins.nothingHappens("years(2, 5, " + w + ")", answer, v -> v.years(2, 5, w));
            Check.due("again the same", askTwice(w), answer);
        }
    }

    private static int askTwice(int what) {
        DailyLie x = Twins.lively();
        x.years(2, 5, what);
        return x.years(2, 5, what);
    }

    /** The drawn day from x = 0 on once more, told by hand behind a midnight: HARM of all at its end. */
    private static int harmAtEnd(DailyLie x) {
        DailyLie y = Check.inTown("facts 1 0;person 0;person 0;person 0;street 0 1;street 1 2;harm 0 1 7;correct");
        y.say(1, 2, 0, 1);
        y.midnight();
        int[] draws = bigDraws(x.count(13), 48);
        for (int hour = 0; hour < 12; hour++) {
            int lesser = draws[4 * hour] % 2;
            boolean lesserTells = draws[4 * hour + 1] % 2 == 0;
            y.say(lesserTells ? lesser : lesser + 1, lesserTells ? lesser + 1 : lesser, 0, draws[4 * hour + 3] % 2);
        }
        return y.count(9);
    }

    private static void imagesOfAll() {
        Check.quote("IMAGES 0 to 3: all but the TAPE and the RULES, as it is (the CHARTER, too)");
        DailyLie x = Twins.lively();
        for (int k = 0; k <= 3; k++) {
            Check.due("image(" + k + ")", x.image(k), 1);
            x.midnight();
            x.undo();
        }
        for (int k = 0; k <= 3; k++) {
            spoil(x);
            Check.due("back(" + k + ")", x.back(k), 1);
            int[] want = {2, 1, 3, 2, 3 + k, 0, 1, 2, 2, 4, 2, 2, 0, 4711, 18};
            for (int what = 0; what < 15; what++) {
                Check.due("count(" + what + ")", x.count(what), want[what]);
            }
        }
        Check.quote("gone back to, it is as it was (these stay; nothing can be UNDONE then).");
        DailyLie y = Twins.lively();
        y.image(1);
        spoil(y);
        y.back(1);
        DailyLie twin = Twins.lively();
        twin.image(1);
        spoilRules(twin);
        twin.back(1);
        Twins.same("behind going back", y, twin);
        DailyLie z = Twins.lively();
        z.image(3);
        z.hour();
        Check.due("acts", z.count(12) > 0 ? 1 : 0, 1);
        z.back(3);
        Check.due("nothing can be undone", z.undo(), -1);
        z.hour();
        Check.due("back once more", z.back(3), 1);
        Check.due("HOUR", z.count(7), 2);
        Check.due("nothing can be undone", z.undo(), -1);
        z.hour();
        Check.due("what comes then can", z.undo(), 0);
        imageOfStated();
    }

    private static void imageOfStated() {
        DailyLie x = Check.inTown("facts 2 0;person 0");
        for (int i = 0; i < 11; i++) {
            x.stated(0, 0, 1);
        }
        x.stated(0, 1, 1);
        x.tale(3, true);
        x.tale(4, false);
        x.image(0);
        x.stated(-1, 0, 0);
        x.tale(-1, true);
        for (int i = 0; i < 12; i++) {
            x.stated(0, 0, 0);
        }
        x.tale(0, true);
        x.tale(1, false);
        Check.due("other things stated", x.truths(0), 4);
        both("other tales", x.schedules(5, 1, 0), x.schedules(5, 1, 1), 1, 1);
        x.back(0);
        Check.due("what was stated", x.truths(0), 2);
        both("what was told", x.schedules(5, 1, 0), x.schedules(5, 1, 1), 1, 8);
        both("what was told, not a lie", x.schedules(5, 4, 0), x.schedules(5, 4, 1), 1, 15);
    }

    /** Changes all that an image keeps, and adds a rule, which stays. */
    private static void spoil(DailyLie x) {
        x.charter(-1);
        x.seed(1);
        x.stated(-1, 0, 0);
        x.tale(-1, true);
        x.tale(0, true);
        x.midnight();
        x.say(0, 1, 1, 1);
        spoilRules(x);
        x.end(0);
        Check.town(x, "facts 8 255;person 255;person 0;street 0 1");
        x.say(0, 1, 0, 0);
        Check.tape(x, "facts 1 1;person 1");
    }

    private static void spoilRules(DailyLie x) {
        x.end(0);
        Check.rule(x, "say 3");
        Check.tape(x, "facts 1 1;person 1");
    }

    private static void breach() {
        Doc.promise(17);
        Check.quote("BREACH what 0: the HOUR, 1: who; -2: there is none yet.");
        DailyLie x = Check.inTown(SEVEN + ";street 6 0");
        both("none yet", x.breach(0), x.breach(1), -2, -2);
        x.say(0, 6, 0, 1);
        both("none yet", x.breach(0), x.breach(1), -2, -2);
        x.say(0, 6, 0, 1);
        both("at hour 0", x.breach(0), x.breach(1), 0, 6);
        Check.quote("NONE for others, or without a TOWN.");
        for (int what : NO_WHAT) {
            Check.due("breach(" + what + ")", x.breach(what), -1);
            Check.due("breach(" + what + ") of none", Check.inTown(SEVEN).breach(what), -1);
        }
        Check.due("no town", new DailyLie().breach(0), -1);
        Check.due("no town", new DailyLie().breach(1), -1);
    }

    private static void tellers() {
        Doc.promise(18);
        Check.quote("TELLERS what 0: how many, 1: the set; -2: it can't be.");
        tellersDue(SEVEN + ";street 6 0;street 6 1;street 6 2;street 6 3;street 6 4;street 5 6", 2, 65);
        tellersDue(SEVEN, -2, -2);
        tellersDue("facts 1 0;person 0", -2, -2);
        tellersDue("facts 1 0;person 0;person 0;person 0;street 0 1", -2, -2);
        Check.quote("NONE for others, or without a TOWN.");
        DailyLie x = Check.inTown(SEVEN);
        for (int what : NO_WHAT) {
            Check.due("tellers(" + what + ")", x.tellers(what), -1);
        }
        Check.due("no town", new DailyLie().tellers(0), -1);
    }

    private static void leastLie() {
        Doc.promise(19);
        Check.quote("LEAST LIE what 0: the FACT, 1: the hearer's HARM then.");
        DailyLie x = Check.inTown("facts 8 0;person 0;person 0;street 0 1;harm 0 1 1;harm 1 1 2;harm 2 1 3;harm 3 1 4;"
                + "harm 4 1 5;harm 5 1 6;harm 6 1 7");
        both("the last fact", x.leastLie(1, 0, 0), x.leastLie(1, 0, 1), 7, 0);
        Check.quote("NONE without these (unlike, a STREET).");
        DailyLie y = Twins.lively();
        for (int no : NO_SUCH) {
            Check.due("leastLie(" + no + ", 1, 0)", y.leastLie(no, 1, 0), -1);
            Check.due("leastLie(1, " + no + ", 0)", y.leastLie(1, no, 0), -1);
        }
        for (int what : NO_WHAT) {
            Check.due("leastLie(0, 1, " + what + ")", y.leastLie(0, 1, what), -1);
        }
        Check.due("alike", y.leastLie(1, 1, 0), -1);
        Check.due("no street", y.leastLie(0, 2, 0), -1);
        Check.due("no town", new DailyLie().leastLie(0, 1, 0), -1);
    }

    private static void evening() {
        Doc.promise(20);
        Check.quote("EVENING; NONE without a TOWN.");
        Check.due("no town", new DailyLie().evening(), -1);
        Check.due("no harms", Check.inTown(SEVEN + ";street 0 1").evening(), 0);
        Check.due("the most", Check.inTown("facts 1 0" + ";person 1".repeat(7) + ";harm 0 0 99".repeat(10)).evening(), 6930);
    }

    private static void walls() {
        Doc.promise(21);
        Check.quote("WALLS what 0: how many, 1: the set of STREETS.");
        DailyLie x = Check.inTown("facts 1 0;person 0;person 0;person 0;street 0 1;street 1 2;street 0 2");
        wallsDue(x, 0, 1, 2, 3);
        wallsDue(x, 0, 2, 2, 5);
        wallsDue(x, 1, 2, 2, 3);
        Check.quote("NONE without these (unlike).");
        for (int no : NO_SUCH) {
            Check.due("walls(" + no + ", 1, 0)", x.walls(no, 1, 0), -1);
            Check.due("walls(1, " + no + ", 0)", x.walls(1, no, 0), -1);
        }
        for (int what : NO_WHAT) {
            Check.due("walls(0, 1, " + what + ")", x.walls(0, 1, what), -1);
        }
        Check.due("alike", x.walls(1, 1, 0), -1);
        Check.due("alike", x.walls(1, 1, 1), -1);
        Check.due("no town", new DailyLie().walls(0, 1, 0), -1);
    }

    private static void leak() {
        Doc.promise(22);
        Check.quote("LEAK: HOURS (0: the same); -2: it never comes");
        DailyLie x = Check.inTown("facts 1 0;person 0;person 0;person 0;street 1 0");
        for (int person = 0; person < 3; person++) {
            Check.due("the same", x.leak(person, person), 0);
        }
        Check.due("along a street", x.leak(0, 1), 1);
        Check.due("never", x.leak(0, 2), -2);
        Check.due("never", x.leak(2, 1), -2);
        Check.quote("NONE without these.");
        for (int no : NO_SUCH) {
            Check.due("leak(" + no + ", 1)", x.leak(no, 1), -1);
            Check.due("leak(1, " + no + ")", x.leak(1, no), -1);
            Check.due("leak of the same", x.leak(no, no), -1);
        }
        Check.due("no town", new DailyLie().leak(0, 0), -1);
    }

    private static void stated() {
        Doc.promise(23);
        Check.quote("STATED (person NONE: nothing is then, 0; said 0 or 1): how many");
        DailyLie x = Check.inTown("facts 8 0" + ";person 0".repeat(7));
        Check.due("the first", x.stated(6, 7, 1), 1);
        Check.due("the second", x.stated(0, 0, 0), 2);
        Check.due("STATED", x.count(10), 2);
        Check.due("nothing is then", x.stated(-1, 0, 0), 0);
        Check.due("STATED", x.count(10), 0);
        Check.due("all ways again", x.truths(0), 256);
        Check.due("whatever else", x.stated(-1, -9, 9), 0);
        Check.due("anew", x.stated(6, 7, 1), 1);
        Check.due("no town", new DailyLie().stated(-1, 0, 0), 0);
        Check.quote("-2, and nothing happens, without these, or if there are 12.");
        for (int no : NO_SUCH) {
            if (no != -1) {
                Twins.nothingHappens("stated(" + no + ", 0, 0)", -2, y -> y.stated(no, 0, 0));
            }
            Twins.nothingHappens("stated(0, " + no + ", 0)", -2, y -> y.stated(0, no, 0));
            Twins.nothingHappens("stated(0, 0, " + no + ")", -2, y -> y.stated(0, 0, no));
        }
        Twins.nothingHappens("a fact more", -2, y -> y.stated(0, 2, 0));
        Twins.nothingHappens("neither 0 nor 1", -2, y -> y.stated(0, 0, 2));
        Twins.nothingHappens("a 13th", -2, y -> y.stated(2, 0, 1), AnswerEdges::allStated);
        Twins.nothingHappens("no town", -2, y -> y.stated(0, 0, 0), DailyLie::new);
        Check.due("nothing of twelve", allStated().stated(-1, 0, 0), 0);
    }

    private static DailyLie allStated() {
        DailyLie x = Twins.lively();
        for (int i = x.count(10); i < 12; i++) {
            x.stated(2, 1, 0);
        }
        return x;
    }

    private static void truths() {
        Doc.promise(24);
        Check.quote("TRUTHS what 0: how many, 1: FACTS that are so in all, 2: not so in all, 3: who lies in all, "
                + "4: who never does in all, as bits (no TRUTH: 0).");
        DailyLie x = Check.inTown("facts 1 1;person 0");
        int[] all = {2, 0, 0, 0, 0};
        for (int what = 0; what < 5; what++) {
            Check.due("nothing stated, truths(" + what + ")", x.truths(what), all[what]);
        }
        x.stated(0, 0, 1);
        for (int what = 0; what < 5; what++) {
            Check.due("one stated, truths(" + what + ")", x.truths(what), all[what]);
        }
        x.stated(0, 0, 0);
        for (int what = 0; what < 5; what++) {
            Check.due("no truth, truths(" + what + ")", x.truths(what), 0);
        }
        Check.due("without people", Check.inTown("facts 8 0").truths(0), 256);
        Check.quote("NONE for others, or without a TOWN.");
        for (int what : new int[] {-2, -1, 5, 6, 32, 33, Integer.MAX_VALUE, Integer.MIN_VALUE}) {
            Check.due("truths(" + what + ")", x.truths(what), -1);
        }
        for (int what = 0; what < 5; what++) {
            Check.due("no town", new DailyLie().truths(what), -1);
        }
    }

    private static void ask() {
        Doc.promise(25);
        Check.quote("ASK what 0: the FACT, 1: how many agree at most; -2: no TRUTH.");
        DailyLie x = Check.inTown("facts 3 0;person 0");
        both("nothing stated", x.ask(0), x.ask(1), 0, 4);
        x.stated(0, 2, 1);
        x.stated(0, 1, 1);
        both("two of a kind", x.ask(0), x.ask(1), 0, 2);
        x.stated(0, 1, 0);
        both("no truth", x.ask(0), x.ask(1), -2, -2);
        Check.quote("NONE for others, or without a TOWN.");
        for (int what : NO_WHAT) {
            Check.due("ask(" + what + ")", x.ask(what), -1);
            Check.due("ask(" + what + ")", Check.inTown("facts 3 0;person 0").ask(what), -1);
        }
        Check.due("no town", new DailyLie().ask(0), -1);
    }

    private static void tale() {
        Doc.promise(26);
        Check.quote("A TALE (place NONE: there are none then, 0; 0 to 9): how many");
        DailyLie x = new DailyLie();
        Check.due("none of none", x.tale(-1, false), 0);
        Check.due("place 0", x.tale(0, true), 1);
        Check.due("place 9", x.tale(9, false), 2);
        Check.due("TALES", x.count(11), 2);
        both("by these", x.schedules(10, 1, 0), x.schedules(10, 1, 1), 1, 1);
        Check.due("none then", x.tale(-1, true), 0);
        Check.due("TALES", x.count(11), 0);
        both("by none", x.schedules(10, 1, 0), x.schedules(10, 1, 1), 10, 0);
        Check.quote("-2, and nothing happens, without these, or if there are 10.");
        for (int place : new int[] {-2, -3, 10, 11, 31, 32, 42, Integer.MAX_VALUE, Integer.MIN_VALUE}) {
            Twins.nothingHappens("tale(" + place + ", true)", -2, y -> y.tale(place, true));
            Twins.nothingHappens("tale(" + place + ", false)", -2, y -> y.tale(place, false));
        }
        Twins.nothingHappens("an 11th", -2, y -> y.tale(1, true), AnswerEdges::allTales);
        Twins.nothingHappens("an 11th", -2, y -> y.tale(3, false), AnswerEdges::allTales);
        Check.due("none of ten", allTales().tale(-1, true), 0);
    }

    private static DailyLie allTales() {
        DailyLie x = Twins.lively();
        for (int i = x.count(11); i < 10; i++) {
            x.tale(2, true);
        }
        return x;
    }

    private static void schedules() {
        Doc.promise(27);
        Check.quote("SCHEDULES of n, k what 0: how many, 1: places that are lies in all, as bits (no SCHEDULE: 0; "
                + "a TALE at a place n or above fits none).");
        DailyLie x = new DailyLie();
        both("the least", x.schedules(1, 0, 0), x.schedules(1, 0, 1), 1, 0);
        both("the least", x.schedules(1, 1, 0), x.schedules(1, 1, 1), 1, 1);
        both("the most", x.schedules(10, 5, 0), x.schedules(10, 5, 1), 252, 0);
        both("all lies", x.schedules(10, 10, 0), x.schedules(10, 10, 1), 1, 1023);
        for (int place = 0; place < 10; place++) {
            x.tale(-1, true);
            x.tale(place, place % 2 == 0);
            for (int n = 1; n <= 10; n++) {
                boolean fits = place < n;
                int k = place % 2 == 0 ? n : 0;
                both("place " + place + " of " + n, x.schedules(n, k, 0), x.schedules(n, k, 1), fits ? 1 : 0,
                        fits && k > 0 ? (1 << n) - 1 : 0);
                both("otherwise, place " + place + " of " + n, x.schedules(n, n - k, 0), x.schedules(n, n - k, 1), 0, 0);
            }
        }
        Check.quote("NONE without these.");
        for (int n : new int[] {0, -1, 11, 12, 32, Integer.MAX_VALUE, Integer.MIN_VALUE}) {
            Check.due("schedules(" + n + ", 0, 0)", x.schedules(n, 0, 0), -1);
            Check.due("schedules(" + n + ", n, 0)", x.schedules(n, n, 0), -1);
        }
        for (int k : new int[] {-1, 4, 32, Integer.MAX_VALUE, Integer.MIN_VALUE}) {
            Check.due("schedules(3, " + k + ", 0)", x.schedules(3, k, 0), -1);
        }
        for (int what : NO_WHAT) {
            Check.due("schedules(3, 1, " + what + ")", x.schedules(3, 1, what), -1);
        }
    }

    private static void seed() {
        Doc.promise(28);
        Check.quote("x becomes a number: what it was");
        DailyLie x = new DailyLie();
        Check.due("0 at first", x.seed(Integer.MAX_VALUE), 0);
        Check.due("x", x.count(13), Integer.MAX_VALUE);
        Check.due("what it was", x.seed(0), Integer.MAX_VALUE);
        Check.due("x", x.count(13), 0);
        Check.due("what it was", x.seed(1), 0);
        Check.quote("NONE, and nothing happens, below 0.");
        for (int below : new int[] {-1, -2, -65536, Integer.MIN_VALUE}) {
            Twins.nothingHappens("seed(" + below + ")", -1, y -> y.seed(below));
        }
    }

    private static void years() {
        Doc.promise(29);
        Check.quote("YEARS what 0: LIES, 1: PEOPLE by DAYS, 2: HARM.");
        DailyLie x = Check.byCharter("facts 1 0;person 1;person 1;street 0 1;harm 0 0 5", "lie hour < 1");
        Check.due("years(2, 3, 0)", x.years(2, 3, 0), 6);
        Check.due("years(2, 3, 1)", x.years(2, 3, 1), 6);
        Check.due("years(2, 3, 2)", x.years(2, 3, 2), 20);
        Check.quote("NONE without these, or a TOWN.");
        for (int what = 0; what < 3; what++) {
            for (int m : new int[] {0, -1, 11, 12, Integer.MAX_VALUE, Integer.MIN_VALUE}) {
                Check.due("years(" + m + ", 1, ..)", x.years(m, 1, what), -1);
            }
            for (int n : new int[] {0, -1, 21, 22, Integer.MAX_VALUE, Integer.MIN_VALUE}) {
                Check.due("years(1, " + n + ", ..)", x.years(1, n, what), -1);
            }
            Check.due("no town", new DailyLie().years(1, 1, what), -1);
        }
        for (int what : NO_WHAT) {
            Check.due("years(1, 1, " + what + ")", x.years(1, 1, what), what == 2 ? 10 : -1);
        }
    }

    private static void count() {
        Doc.promise(30);
        Check.quote("What 0: FACTS, 1: those that are so, as bits, 2: PEOPLE, 3: STREETS, 4: RULES, 5: the CHARTER (NONE), "
                + "6: DAY, 7: HOUR, 8: LIES that DAY, 9: HARM of all, 10: STATED, 11: TALES, 12: ACTS that can be UNDONE, "
                + "13: x, 14: bytes of the TAPE.");
        int[] lively = {2, 1, 3, 2, 2, 0, 1, 2, 2, 4, 2, 2, 10, 4711, 18};
        DailyLie x = Twins.lively();
        for (int what = 0; what < 15; what++) {
            Check.due("count(" + what + ")", x.count(what), lively[what]);
        }
        x.charter(-1);
        Check.due("no charter", x.count(5), -1);
        x.say(0, 1, 0, 0);
        Check.due("a lie more", x.count(8), 3);
        x.end(0);
        Check.due("an empty tape", x.count(14), 0);
        x.feed(0, 0, 0, 0, 0);
        Check.due("20 bytes", x.count(14), 20);
        Check.quote("NONE for others.");
        for (int what : new int[] {-1, -2, 15, 16, 31, 32, Integer.MAX_VALUE, Integer.MIN_VALUE}) {
            Check.due("count(" + what + ")", x.count(what), -1);
            Check.due("count(" + what + ") of a new object", new DailyLie().count(what), -1);
        }
    }

    private static void image() {
        Doc.promise(31);
        Check.quote("An IMAGE is made: DAY");
        DailyLie x = new DailyLie();
        Check.due("without a town", x.image(0), 0);
        Check.town(x, "facts 1 0;person 0");
        x.midnight();
        Check.due("day 1", x.image(3), 1);
        x.midnight();
        Check.due("day 2, in place of it", x.image(3), 2);
        Check.due("acts stay", x.count(12), 2);
        Check.due("back to it", x.back(3), 2);
        Check.due("back to no town", x.back(0), 0);
        Check.due("no town", x.midnight(), -1);
        Check.due("PEOPLE", x.count(2), 0);
        Check.quote("NONE without it.");
        for (int k : new int[] {-1, -2, 4, 5, 31, 32, Integer.MAX_VALUE, Integer.MIN_VALUE}) {
            Twins.nothingHappens("image(" + k + ")", -1, y -> y.image(k));
        }
    }

    private static void back() {
        Doc.promise(32);
        Check.quote("All is as in an IMAGE: DAY");
        DailyLie x = Twins.lively();
        Check.due("back(0)", x.back(0), 0);
        int[] first = {2, 1, 3, 2, 2, 0, 0, 1, 2, 6, 2, 1, 0, 4711, 18};
        for (int what = 0; what < 15; what++) {
            Check.due("count(" + what + ")", x.count(what), first[what]);
        }
        Check.due("back(2)", x.back(2), 1);
        int[] second = {2, 1, 3, 2, 2, 0, 1, 0, 1, 0, 2, 2, 0, 4711, 18};
        for (int what = 0; what < 15; what++) {
            Check.due("count(" + what + ")", x.count(what), second[what]);
        }
        Check.quote("NONE, and nothing happens, if it was never made, or without it.");
        Twins.nothingHappens("back(1)", -1, y -> y.back(1));
        Twins.nothingHappens("back(3)", -1, y -> y.back(3));
        for (int k : new int[] {-1, -2, 4, 5, 31, 32, Integer.MAX_VALUE, Integer.MIN_VALUE}) {
            Twins.nothingHappens("back(" + k + ")", -1, y -> y.back(k));
        }
        Twins.nothingHappens("back(0) of a new object", -1, y -> y.back(0), DailyLie::new);
    }
}
