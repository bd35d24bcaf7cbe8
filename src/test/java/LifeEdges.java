/** Terms II and promises 7 to 16: what is held and believed, sayings, acts and their undoing, each with its edges. */
final class LifeEdges {
    static final int[] NO_SUCH = {-2, -1, 3, 7, 8, 31, 32, 33, 64, Integer.MAX_VALUE, Integer.MIN_VALUE};
    private static final String TWO = "facts 1 0;person 0;person 0;street 0 1";

    private LifeEdges() {
    }

    static void check() {
        Doc.terms(2);
        holding();
        telling();
        believing();
        saying();
        breaching();
        meeting();
        hoursAndMidnight();
        lastDay();
        lastActs();
        byARule();
        greatest();
        holds();
        person();
        trust();
        say();
        would();
        meet();
        hour();
        midnight();
        undo();
        run();
    }

    private static void holding() {
        Check.quote("A PERSON HOLDS of each FACT 0, 1 or nothing, with a STRENGTH 0 to 10: "
                + "at first those they know as they are, with 10; else nothing, with 0.");
        DailyLie x = Check.inTown("facts 8 129;person 195;person 0;person 255");
        for (int fact = 0; fact < 8; fact++) {
            int so = 129 >> fact & 1;
            boolean known = (195 >> fact & 1) == 1;
            Check.held(x, 0, fact, known ? so : 2, known ? 10 : 0, known ? so : 2);
            Check.held(x, 1, fact, 2, 0, 2);
            Check.held(x, 2, fact, so, 10, so);
        }
    }

    private static void telling() {
        Check.quote("Told something: if the hearer's trust in the teller is not below the STRENGTH of what they HOLD of it "
                + "(nothing: always), they HOLD that, with that trust as STRENGTH.");
        for (int first = 0; first <= 9; first++) {
            for (int second = 0; second <= 9; second++) {
                DailyLie x = Check.inTown("facts 1 0;person 0;person 0;person 0;street 0 1;street 1 2;trust 1 0 " + first
                        + ";trust 1 2 " + second);
                x.say(0, 1, 0, 1);
                Check.held(x, 1, 0, 1, first, 1);
                x.say(2, 1, 0, 0);
                boolean taken = second >= first;
                Check.held(x, 1, 0, taken ? 0 : 1, taken ? second : first, taken ? 0 : 1);
            }
        }
        DailyLie known = Check.inTown("facts 1 1;person 1;person 0;street 0 1;trust 0 1 9");
        known.say(1, 0, 0, 0);
        Check.held(known, 0, 0, 1, 10, 1);
        known.say(1, 0, 0, 1);
        Check.held(known, 0, 0, 1, 10, 1);
        DailyLie same = Check.inTown("facts 1 0;person 0;person 0;person 0;street 0 1;street 1 2;trust 1 0 4;trust 1 2 6");
        same.say(0, 1, 0, 1);
        same.say(2, 1, 0, 1);
        Check.held(same, 1, 0, 1, 6, 1);
        same.say(0, 1, 0, 1);
        Check.held(same, 1, 0, 1, 6, 1);
    }

    private static void believing() {
        Check.quote("BELIEVES: what they HOLD, and what follows: again and again the first IF (in the order told) whose FACT "
                + "is BELIEVED so, and of whose other FACT nothing is BELIEVED yet: that is BELIEVED as it says.");
        // The longest chain there can be, told from its end on.
        DailyLie chain = Check.inTown("facts 8 0;person 1;if 6 1 7 0;if 5 0 6 1;if 4 1 5 0;if 3 0 4 1;if 2 1 3 0;"
                + "if 1 0 2 1;if 0 0 1 0");
        int[] want = {0, 0, 1, 0, 1, 0, 1, 0};
        for (int fact = 0; fact < 8; fact++) {
            Check.due("along a chain", chain.holds(0, fact, 2), want[fact]);
        }
        Check.due("held is the first alone", chain.holds(0, 1, 0), 2);
        DailyLie ring = Check.inTown("facts 2 0;person 1;if 0 0 1 1;if 1 1 0 1");
        Check.due("what is held stays", ring.holds(0, 0, 2), 0);
        Check.due("what follows", ring.holds(0, 1, 2), 1);
        DailyLie first = Check.inTown("facts 3 0;person 3;if 1 0 2 1;if 0 0 2 0");
        Check.due("the first if", first.holds(0, 2, 2), 1);
        // From 0 follows 1 by the third if; then the first if is looked at again, ahead of the last one.
        DailyLie again = Check.inTown("facts 3 0;person 1;if 1 1 2 1;if 0 1 2 0;if 0 0 1 1;if 0 0 2 0");
        Check.due("again from the first if on", again.holds(0, 2, 2), 1);
        Check.due("the last one contradicts", again.person(0, 2), 1);
        DailyLie none = Check.inTown("facts 2 0;person 0;if 0 0 1 1");
        Check.due("from nothing nothing follows", none.holds(0, 1, 2), 2);
        Check.quote("CONTRADICTIONS: IFS whose FACT is BELIEVED so, and whose other FACT otherwise.");
        Check.due("none", chain.person(0, 2), 0);
        Check.due("the ring's second", ring.person(0, 2), 1);
        Check.due("from nothing none", none.person(0, 2), 0);
        DailyLie all = Check.inTown("facts 2 0;person 3" + ";if 0 0 1 1".repeat(5) + ";if 1 0 0 1".repeat(5));
        Check.due("all ten", all.person(0, 2), 10);
        Check.due("no ifs", Check.inTown("facts 2 0;person 3").person(0, 2), 0);
        Check.quote("HARM of a PERSON: all HARMS whose FACT they BELIEVE so, together.");
        DailyLie harms = Check.inTown("facts 2 0;person 1;person 0;if 0 0 1 1;harm 0 0 1;harm 0 0 2;harm 0 1 4;harm 1 1 8;"
                + "harm 1 0 16");
        Check.due("what is held and what follows", harms.person(0, 1), 11);
        Check.due("nothing is believed", harms.person(1, 1), 0);
        Check.due("no harms", Check.inTown("facts 2 0;person 3").person(0, 1), 0);
        Check.due("the most", Check.inTown("facts 1 0;person 1" + ";harm 0 0 99".repeat(10)).person(0, 1), 990);
    }

    private static void saying() {
        Check.quote("A SAYING: by a teller to a hearer between whom there is a STREET, a FACT, 0 or 1");
        DailyLie x = Check.inTown("facts 1 0;person 0;person 0;person 0;street 2 1");
        Check.due("along the street", x.say(2, 1, 0, 0), 0);
        Check.due("back along it", x.say(1, 2, 0, 1), 1);
        Check.due("no street", x.say(0, 1, 0, 0), -1);
        Check.due("no street", x.say(2, 0, 0, 0), -1);
        Check.quote("by the CHARTER (a RULE told so, or none) it is a LIE, if some lie TEST holds (ahead of being told)");
        DailyLie y = Check.byCharter(TWO, "lie heard = 2;say 1;lie heard = 1 and lies = 1");
        Check.due("the first test", y.say(0, 1, 0, 1), 1);
        Check.due("the second", y.say(0, 1, 0, 1), 1);
        Check.due("none", y.say(0, 1, 0, 1), 0);
        DailyLie never = Check.byCharter(TWO, "lie 1 = 2");
        Check.due("no test holds though it is not so", never.say(0, 1, 0, 1), 0);
        DailyLie many = Check.byCharter(TWO, "lie 1=2;".repeat(11) + "lie 1=1");
        Check.due("the twelfth test", many.say(0, 1, 0, 0), 1);
        DailyLie none = Check.byCharter(TWO, "lie 1=2" + ";lie 1=2".repeat(11));
        Check.due("none of twelve", none.say(0, 1, 0, 1), 0);
        Check.quote("without a RULE, or a lie CLAUSE, if it is not as it is.");
        for (int so = 0; so < 2; so++) {
            String town = "facts 1 " + so + ";person 0;person 0;street 0 1";
            DailyLie z = Check.inTown(town);
            DailyLie sayer = Check.byCharter(town, "say 5 if said = 1");
            for (int said = 0; said < 2; said++) {
                Check.due("without a rule", z.would(0, 1, 0, said), so == said ? 0 : 1);
                Check.due("without a lie clause", sayer.would(0, 1, 0, said), so == said ? 0 : 1);
            }
        }
        Check.quote("A LIE is counted for the hearer.");
        Check.due("the hearer", y.person(1, 0), 2);
        Check.due("not the teller", y.person(0, 0), 0);
        Check.due("no lie", never.person(1, 0), 0);
    }

    private static void breaching() {
        Check.quote("BREACH: the first SAYING of a DAY by which somebody was lied to a second time: its HOUR, who.");
        DailyLie x = Check.inTown("facts 1 0;person 0;person 0;person 0;street 0 1;street 1 2");
        x.say(0, 1, 0, 1);
        x.say(1, 2, 0, 1);
        Check.due("each once", x.breach(0), -2);
        x.midnight();
        x.say(0, 1, 0, 1);
        Check.due("once on each day", x.breach(1), -2);
        for (int hour = 0; hour < 23; hour++) {
            x.hour();
        }
        x.say(2, 1, 0, 0);
        Check.due("what is no lie is none", x.breach(1), -2);
        x.say(2, 1, 0, 1);
        Check.due("hour 23", x.breach(0), 23);
        Check.due("who", x.breach(1), 1);
        x.undo();
        Check.due("undone", x.breach(0), -2);
        x.say(1, 0, 0, 1);
        x.say(1, 0, 0, 1);
        x.say(2, 1, 0, 1);
        x.say(2, 1, 0, 1);
        Check.due("the first", x.breach(1), 0);
        x.midnight();
        Check.due("none of the new day", x.breach(0), -2);
        x.say(1, 2, 0, 1);
        x.say(1, 2, 0, 1);
        x.hour();
        x.say(1, 2, 0, 1);
        Check.due("not the third", x.breach(0), 0);
        Check.due("who", x.breach(1), 2);
    }

    private static void meeting() {
        Check.quote("MEETING of two with a STREET: the lesser one says to the other one all that they HOLD, by FACTS");
        String town = "facts 8 0;person 129;person 0;street 1 0;trust 1 0 4";
        DailyLie x = Check.inTown(town);
        Check.due("no lies", x.meet(1, 0), 0);
        for (int fact = 0; fact < 8; fact++) {
            boolean told = fact == 0 || fact == 7;
            Check.held(x, 1, fact, told ? 0 : 2, told ? 4 : 0, told ? 0 : 2);
        }
        // Only the first saying finds that nobody was lied to: that of the least fact, by the lesser one.
        DailyLie order = Check.byCharter("facts 3 0;person 6;person 1;street 0 1", "lie lies = 0 and fact = 1");
        Check.due("fact 1 ahead of fact 2", order.meet(1, 0), 1);
        order = Check.byCharter("facts 3 0;person 6;person 1;street 0 1", "lie fact = 1;lie lies = 1 and fact = 2");
        Check.due("fact 2 behind fact 1", order.meet(1, 0), 2);
        // What is believed but not held is not said.
        DailyLie follows = Check.byCharter("facts 2 0;person 1;person 0;street 0 1;if 0 0 1 1", "lie 1 = 1");
        Check.due("what is held alone", follows.meet(0, 1), 1);
        Check.due("nothing to say", Check.inTown(TWO).meet(0, 1), 0);
        Check.quote("then the other way round what that one HOLDS then");
        // 1 takes over from 0 what they held otherwise, so there is nothing to be said back.
        DailyLie y = Check.inTown("facts 1 0;person 1;person 0;person 0;street 0 1;street 1 2;trust 0 1 9");
        y.say(2, 1, 0, 1);
        Check.due("0 is believed", y.meet(1, 0), 0);
        Check.held(y, 1, 0, 0, 5, 0);
        // 1 does not take it over, and says it back.
        DailyLie z = Check.inTown("facts 1 0;person 1;person 0;person 0;street 0 1;street 1 2;trust 1 2 6");
        z.say(2, 1, 0, 1);
        Check.due("0 is not believed", z.meet(0, 1), 1);
        Check.due("0 was lied to", z.person(0, 0), 1);
        DailyLie back = Check.byCharter("facts 2 0;person 1;person 2;street 0 1", "lie hearer = 0 and heard = 2");
        Check.due("the other way round, too", back.meet(0, 1), 1);
        Check.held(back, 0, 1, 0, 5, 0);
        Check.quote(", except what the hearer HOLDS just so.");
        DailyLie w = Check.byCharter("facts 1 0;person 1;person 0;street 0 1;trust 1 0 3", "lie second = 1");
        w.say(0, 1, 0, 0);
        Check.due("they hold the same", w.meet(0, 1), 0);
        Check.held(w, 1, 0, 0, 3, 0);
        Check.due("nobody was lied to", w.count(8), 0);
        DailyLie both = Check.byCharter("facts 2 0;person 3;person 3;street 0 1", "lie 1 = 1");
        Check.due("they know the same", both.meet(0, 1), 0);
        DailyLie believes = Check.byCharter("facts 2 0;person 3;person 1;street 0 1;if 0 0 1 0", "lie 1 = 1");
        Check.due("what is believed is not held", believes.meet(0, 1), 1);
    }

    private static void hoursAndMidnight() {
        Check.quote("ACTS: SAY, MEET, an HOUR goes by (23 at most)");
        DailyLie x = Check.inTown(TWO);
        x.say(0, 1, 0, 0);
        Check.due("say", x.count(12), 1);
        x.meet(0, 1);
        Check.due("meet", x.count(12), 2);
        x.hour();
        Check.due("an hour", x.count(12), 3);
        x.midnight();
        Check.due("midnight", x.count(12), 4);
        x.would(0, 1, 0, 0);
        x.charter(-1);
        x.seed(1);
        x.stated(0, 0, 0);
        x.tale(0, true);
        x.image(0);
        Check.due("others are none", x.count(12), 4);
        for (int hour = 1; hour <= 23; hour++) {
            Check.due("an hour", x.hour(), hour);
        }
        Check.due("23 at most", x.hour(), -1);
        Check.quote("MIDNIGHT: DAY one more (9999 at most), HOUR 0, nobody was lied to");
        x.say(0, 1, 0, 1);
        x.say(1, 0, 0, 1);
        Check.due("midnight", x.midnight(), 2);
        Check.due("DAY", x.count(6), 2);
        Check.due("HOUR", x.count(7), 0);
        Check.due("LIES", x.count(8), 0);
        Check.due("lied to", x.person(0, 0), 0);
        Check.due("lied to", x.person(1, 0), 0);
        Check.held(x, 1, 0, 1, 5, 1);
        Check.quote("if told so, all that is HELD otherwise than it is, is nothing again, with 0.");
        DailyLie y = Check.inTown("facts 3 5;person 0;person 0;street 0 1;if 0 0 1 1;harm 1 1 9;correct");
        y.say(0, 1, 0, 0);
        y.say(0, 1, 2, 1);
        y.say(1, 0, 1, 1);
        y.say(1, 0, 2, 0);
        Check.held(y, 1, 1, 2, 0, 1);
        y.midnight();
        Check.held(y, 1, 0, 2, 0, 2);
        Check.held(y, 1, 1, 2, 0, 2);
        Check.held(y, 1, 2, 1, 5, 1);
        Check.held(y, 0, 1, 2, 0, 2);
        Check.held(y, 0, 2, 2, 0, 2);
        Check.due("no harm any more", y.count(9), 0);
        y.undo();
        Check.held(y, 1, 0, 0, 5, 0);
        Check.held(y, 1, 1, 2, 0, 1);
        DailyLie full = Check.inTown("facts 8 1" + ";person 255".repeat(7) + ";correct");
        full.midnight();
        for (int person = 0; person < 7; person++) {
            Check.held(full, person, 0, 1, 10, 1);
            Check.held(full, person, 7, 0, 10, 0);
        }
    }

    /** Beyond the 512 calls of which the document speaks, for no fewer reach this day: the class goes on all the same. */
    private static DailyLie nearTheLastDay() {
        DailyLie x = Check.byCharter(TWO, "lie 1 = 1;say 1");
        for (int i = 0; i < 2499; i++) {
            x.run(0, 96);
        }
        Check.due("DAY", x.count(6), 9996);
        return x;
    }

    private static void lastDay() {
        Check.quote("MIDNIGHT: DAY one more (9999 at most), HOUR 0, nobody was lied to");
        DailyLie x = nearTheLastDay();
        Check.due("midnight()", x.midnight(), 9997);
        Check.due("midnight()", x.midnight(), 9998);
        Check.due("midnight()", x.midnight(), 9999);
        x.hour();
        x.say(0, 1, 0, 1);
        Check.due("midnight()", x.midnight(), -1);
        Check.due("DAY", x.count(6), 9999);
        Check.due("HOUR", x.count(7), 1);
        Check.due("LIES", x.count(8), 1);
        Check.due("ACTS", x.count(12), 5);
        Check.due("years go on", x.years(1, 2, 0), 24);
        Check.due("DAY", x.count(6), 9999);
    }

    private static void lastActs() {
        Check.quote("The last 20 ACTS can be UNDONE, the last first.");
        for (int hours : new int[] {1, 19, 20, 21, 23}) {
            DailyLie x = Check.inTown(TWO);
            for (int i = 0; i < hours; i++) {
                x.hour();
            }
            int kept = Math.min(hours, 20);
            Check.due("ACTS", x.count(12), kept);
            for (int left = kept - 1; left >= 0; left--) {
                Check.due("undo()", x.undo(), left);
                Check.due("HOUR", x.count(7), hours - kept + left);
            }
            Check.due("undo()", x.undo(), -1);
        }
        DailyLie x = Check.inTown(TWO);
        for (int i = 0; i < 30; i++) {
            x.midnight();
        }
        for (int i = 0; i < 5; i++) {
            x.undo();
        }
        for (int i = 0; i < 3; i++) {
            x.hour();
        }
        Check.due("20 less 5 and 3 more", x.count(12), 18);
        for (int left = 17; left >= 15; left--) {
            Check.due("undo()", x.undo(), left);
            Check.due("DAY", x.count(6), 25);
        }
        for (int left = 14; left >= 0; left--) {
            Check.due("undo()", x.undo(), left);
            Check.due("DAY", x.count(6), 10 + left);
        }
        Check.due("undo()", x.undo(), -1);
        Check.due("DAY", x.count(6), 10);
        DailyLie y = Check.inTown("facts 1 0;person 1;person 0;person 0;street 0 1;street 1 2");
        y.say(0, 1, 0, 1);
        y.meet(1, 2);
        y.say(0, 1, 0, 0);
        y.meet(1, 2);
        Check.held(y, 2, 0, 0, 5, 0);
        y.undo();
        Check.held(y, 2, 0, 1, 5, 1);
        Check.held(y, 1, 0, 0, 5, 0);
        y.undo();
        Check.held(y, 1, 0, 1, 5, 1);
        Check.due("lied to", y.count(8), 2);
        y.undo();
        Check.held(y, 2, 0, 2, 0, 2);
        Check.due("lied to", y.count(8), 1);
        y.undo();
        Check.held(y, 1, 0, 2, 0, 2);
        Check.due("lied to", y.count(8), 0);
    }

    private static void byARule() {
        Check.quote("BY A RULE n HOURS: in each the PERSON whose number is HOUR mod PEOPLE says that");
        String[] rings = {";street 0 1", ";street 0 1;street 1 2;street 2 0",
            ";street 0 1;street 1 2;street 2 3;street 3 4;street 4 5;street 5 6;street 6 0"};
        int[] people = {2, 3, 7};
        for (int i = 0; i < 3; i++) {
            DailyLie x = Check.byCharter("facts 1 0" + ";person 0".repeat(people[i]) + rings[i],
                    "lie teller = hour % " + people[i] + ";say 1");
            x.hour();
            Check.due("each is told by whose turn it is", x.run(0, 96), 96);
        }
        DailyLie alone = Check.byCharter("facts 1 0;person 0", "lie 1 = 1;say 1");
        Check.due("nobody to say it to", alone.run(0, 25), 0);
        Check.due("hours go by", alone.count(6), 1);
        // 1 has a street to 2 alone, 0 has none: what is said in hours 0 to 2 is said by 1 and 2.
        DailyLie some = Check.byCharter("facts 1 0;person 0;person 0;person 0;street 1 2", "lie 1 = 1;say 1");
        Check.due("hour 0", some.run(0, 1), 0);
        Check.due("hour 1", some.run(0, 1), 1);
        Check.due("hour 2", some.run(0, 1), 1);
        Check.due("2 was told", some.person(2, 0), 1);
        Check.due("1 was told", some.person(1, 0), 1);
        Check.quote("then the HOUR goes by, behind HOUR 23 it is MIDNIGHT.");
        DailyLie y = Check.byCharter(TWO + ";correct", "lie said = 1;say 1 + said");
        Check.due("23 hours", y.run(0, 23), 23);
        Check.due("HOUR", y.count(7), 23);
        Check.due("LIES", y.count(8), 23);
        Check.due("DAY", y.count(6), 0);
        Check.held(y, 1, 0, 1, 5, 1);
        Check.due("hour 23", y.run(0, 1), 1);
        Check.due("HOUR", y.count(7), 0);
        Check.due("DAY", y.count(6), 1);
        Check.due("nobody was lied to", y.count(8), 0);
        Check.due("no breach", y.breach(0), -2);
        Check.held(y, 1, 0, 2, 0, 2);
        Check.quote("(These can't be UNDONE: nothing ahead of them can, either.)");
        y.hour();
        y.say(0, 1, 0, 1);
        y.run(0, 1);
        Check.due("ACTS", y.count(12), 0);
        Check.due("undo()", y.undo(), -1);
        y.hour();
        y.say(0, 1, 0, 0);
        Check.due("what is behind can", y.undo(), 1);
        Check.due("what is behind can", y.undo(), 0);
        Check.due("HOUR", y.count(7), 2);
        Check.due("undo()", y.undo(), -1);
    }

    /** Fact, 0 or 1 that person 0 says to 1 in the first hour by a rule: 2 * fact + said; -1 if nothing. */
    private static int said(String rule) {
        DailyLie x = Check.inTown("facts 4 0;person 0;person 0;street 0 1");
        Check.due("rule " + rule, Check.rule(x, rule), 0);
        x.run(0, 1);
        int all = -1;
        for (int fact = 0; fact < 4; fact++) {
            if (x.holds(1, fact, 0) != 2) {
                all = all < 0 ? 2 * fact + x.holds(1, fact, 0) : 100;
            }
        }
        return all;
    }

    private static void greatest() {
        String most = "65536 * 65536 * 65536 * 32768";
        Check.quote("for which the SUM of its first say CLAUSE without a TEST, or whose TEST holds (0 without), is greatest, "
                + "if above 0");
        Check.due("1", said("say 1"), 0);
        Check.due("0 is not above 0", said("say 0"), -1);
        Check.due("below 0", said("say 0 - 1"), -1);
        Check.due("the most below 0", said("say " + most), -1);
        Check.due("the most above 0", said("say " + most + " - 1 - fact"), 0);
        Check.due("the most above 0, ahead of the most below 0", said("say " + most + " - 2 + fact"), 2);
        Check.due("the greatest", said("say fact * 2 + said"), 7);
        Check.due("the greatest, of some below 0", said("say fact * 2 + said - 6"), 7);
        Check.due("none above 0", said("say fact * 2 + said - 7"), -1);
        Check.due("the least, turned round", said("say 8 - fact * 2 - said"), 0);
        Check.due("a test", said("say 1 if fact = 2 and said = 1"), 5);
        Check.due("no test holds", said("say 1 if fact = 4"), -1);
        Check.due("no say clause", said("lie 1 = 1"), -1);
        Check.due("a lie clause ahead", said("lie 1 = 1;say fact"), 6);
        Check.due("the first whose test holds", said("say 0 if fact = 3;say 5 if fact = 2;say fact + 1"), 4);
        Check.due("the first without a test", said("say 2;say 9 if fact = 3"), 0);
        Check.due("the twelfth", said("say 0 if fact < 3;".repeat(11) + "say 1"), 6);
        Check.due("none of twelve", said("say 1 if 1=2" + ";say 1 if 1=2".repeat(11)), -1);
        Check.quote("of several the first by hearers, FACTS, 0 ahead of 1");
        Check.due("the first fact and 0", said("say 1 if fact > 1"), 4);
        Check.due("0 ahead of 1", said("say fact"), 6);
        Check.due("1 of the first fact", said("say said"), 1);
        String town = "facts 2 0;person 0;person 0;person 0;person 0;street 0 3;street 0 2";
        DailyLie x = Check.inTown(town);
        Check.rule(x, "say 1");
        x.run(0, 1);
        Check.due("the first hearer with a street", x.holds(2, 0, 0), 0);
        Check.due("not the other one", x.holds(3, 0, 0), 2);
        DailyLie y = Check.inTown(town);
        Check.rule(y, "say fact + said");
        y.run(0, 1);
        Check.due("hearers ahead of facts", y.holds(2, 1, 0), 1);
        DailyLie z = Check.inTown(town);
        Check.rule(z, "say 1 + hearer - fact");
        z.run(0, 1);
        Check.due("the greatest ahead of the first", z.holds(3, 0, 0), 0);
    }

    private static void holds() {
        Doc.promise(7);
        Check.quote("What a PERSON HOLDS of a FACT what 0: 0, 1, or 2: nothing, 1: its STRENGTH, "
                + "2: what they BELIEVE (0, 1, 2).");
        DailyLie x = Check.inTown("facts 3 2;person 3;person 0;street 0 1;trust 1 0 9;if 0 1 2 0");
        Check.held(x, 0, 0, 0, 10, 0);
        Check.held(x, 0, 1, 1, 10, 1);
        Check.held(x, 0, 2, 2, 0, 2);
        x.say(0, 1, 0, 1);
        Check.held(x, 1, 0, 1, 9, 1);
        Check.held(x, 1, 2, 2, 0, 0);
        Check.quote("NONE without these.");
        DailyLie y = Twins.lively();
        for (int no : NO_SUCH) {
            Check.due("holds(" + no + ", 0, 0)", y.holds(no, 0, 0), -1);
            Check.due("holds(0, " + no + ", 0)", y.holds(0, no, 0), -1);
            Check.due("holds(0, 0, " + no + ")", y.holds(0, 0, no), -1);
        }
        Check.due("holds(0, 2, 0)", y.holds(0, 2, 0), -1);
        Check.due("without a town", new DailyLie().holds(0, 0, 0), -1);
        Check.due("without people", Check.inTown("facts 1 0").holds(0, 0, 0), -1);
    }

    private static void person() {
        Doc.promise(8);
        Check.quote("Of a PERSON what 0: how often they were lied to that DAY, 1: HARM, 2: CONTRADICTIONS, "
                + "3: to whom STREETS go, as bits, 4: 1 if a child, else 0.");
        DailyLie x = Check.inTown("facts 2 0" + ";person 1".repeat(7) + ";street 0 6;street 3 0;harm 0 0 7;if 0 0 1 1;"
                + "if 0 0 1 0;child 0");
        x.say(6, 0, 0, 1);
        x.say(3, 0, 0, 1);
        int[] first = {2, 7, 1, 64 + 8, 1};
        int[] last = {0, 7, 1, 1, 0};
        for (int what = 0; what < 5; what++) {
            Check.due("person(0, " + what + ")", x.person(0, what), first[what]);
            Check.due("person(6, " + what + ")", x.person(6, what), last[what]);
        }
        Check.due("no streets", x.person(1, 3), 0);
        x.midnight();
        Check.due("that day", x.person(0, 0), 0);
        Check.quote("NONE without these.");
        DailyLie y = Twins.lively();
        for (int no : NO_SUCH) {
            Check.due("person(" + no + ", 0)", y.person(no, 0), -1);
            Check.due("person(0, " + no + ")", y.person(0, no), no == 3 ? 2 : -1);
        }
        Check.due("person(0, 5)", y.person(0, 5), -1);
        Check.due("person(7, 0) of seven", x.person(7, 0), -1);
        Check.due("without a town", new DailyLie().person(0, 0), -1);
    }

    private static void trust() {
        Doc.promise(9);
        Check.quote("How much one trusts another one");
        DailyLie x = Check.inTown("facts 1 0" + ";person 0".repeat(7) + ";trust 0 6 0;trust 6 0 9;trust 6 5 1");
        Check.due("least", x.trust(0, 6), 0);
        Check.due("most", x.trust(6, 0), 9);
        Check.due("told", x.trust(6, 5), 1);
        Check.due("without", x.trust(5, 6), 5);
        Check.quote("NONE without these (unlike).");
        for (int person = 0; person < 7; person++) {
            Check.due("alike", x.trust(person, person), -1);
        }
        for (int no : NO_SUCH) {
            if (no != 3) {
                Check.due("trust(0, " + no + ")", x.trust(0, no), no == 7 || no < 0 || no > 7 ? -1 : 5);
                Check.due("trust(" + no + ", 0)", x.trust(no, 0), no == 7 || no < 0 || no > 7 ? -1 : 5);
            }
        }
        Check.due("one more", Twins.lively().trust(0, 3), -1);
        Check.due("without a town", new DailyLie().trust(0, 1), -1);
    }

    private static void say() {
        Doc.promise(10);
        Check.quote("A SAYING: 1 if it is a LIE, 0 if not");
        DailyLie x = Check.inTown(TWO);
        Check.due("a lie", x.say(0, 1, 0, 1), 1);
        Check.due("told", x.holds(1, 0, 0), 1);
        Check.due("none", x.say(0, 1, 0, 0), 0);
        Check.due("told", x.holds(1, 0, 0), 0);
        Check.due("two acts", x.count(12), 2);
        Check.quote("NONE, and nothing happens, without these (unlike PEOPLE, a STREET).");
        for (int no : NO_SUCH) {
            Twins.nothingHappens("say(" + no + ", 1, 0, 0)", -1, y -> y.say(no, 1, 0, 0));
            Twins.nothingHappens("say(1, " + no + ", 0, 0)", -1, y -> y.say(1, no, 0, 0));
            Twins.nothingHappens("say(0, 1, " + no + ", 0)", -1, y -> y.say(0, 1, no, 0));
            Twins.nothingHappens("say(0, 1, 0, " + no + ")", -1, y -> y.say(0, 1, 0, no));
        }
        Twins.nothingHappens("a fact more", -1, y -> y.say(0, 1, 2, 0));
        Twins.nothingHappens("neither 0 nor 1", -1, y -> y.say(0, 1, 0, 2));
        Twins.nothingHappens("alike", -1, y -> y.say(1, 1, 0, 0));
        Twins.nothingHappens("no street", -1, y -> y.say(0, 2, 0, 0));
        Twins.nothingHappens("no street", -1, y -> y.say(2, 0, 0, 0));
        Twins.nothingHappens("no town", -1, y -> y.say(0, 1, 0, 0), DailyLie::new);
    }

    private static void would() {
        Doc.promise(11);
        Check.quote("What SAY would tell, nothing happens.");
        for (int fact = 0; fact < 2; fact++) {
            for (int said = 0; said < 2; said++) {
                int f = fact;
                int s = said;
                int tells = Twins.lively().say(1, 2, f, s);
                Twins.nothingHappens("would(1, 2, " + f + ", " + s + ")", tells, y -> y.would(1, 2, f, s));
                tells = Twins.lively().say(1, 0, f, s);
                Twins.nothingHappens("would(1, 0, " + f + ", " + s + ")", tells, y -> y.would(1, 0, f, s));
            }
        }
        DailyLie x = Twins.lively();
        for (int no : NO_SUCH) {
            Check.due("would(" + no + ", 1, 0, 0)", x.would(no, 1, 0, 0), -1);
            Check.due("would(1, " + no + ", 0, 0)", x.would(1, no, 0, 0), -1);
            Check.due("would(0, 1, " + no + ", 0)", x.would(0, 1, no, 0), -1);
            Check.due("would(0, 1, 0, " + no + ")", x.would(0, 1, 0, no), -1);
        }
        Check.due("a fact more", x.would(0, 1, 2, 0), -1);
        Check.due("neither 0 nor 1", x.would(0, 1, 0, 2), -1);
        Check.due("alike", x.would(1, 1, 0, 0), -1);
        Check.due("no street", x.would(0, 2, 0, 0), -1);
        Check.due("no town", new DailyLie().would(0, 1, 0, 0), -1);
    }

    private static void meet() {
        Doc.promise(12);
        Check.quote("A MEETING: how many LIES were told");
        DailyLie x = Check.byCharter("facts 8 0;person 15;person 240;street 0 1", "lie 1 = 1");
        Check.due("all eight", x.meet(1, 0), 8);
        Check.due("one act", x.count(12), 1);
        Check.due("none is left", x.meet(0, 1), 0);
        Check.due("another act", x.count(12), 2);
        Check.due("lied to", x.person(0, 0), 4);
        Check.due("lied to", x.person(1, 0), 4);
        Check.quote("NONE, and nothing happens, without these (unlike, a STREET).");
        for (int no : NO_SUCH) {
            Twins.nothingHappens("meet(" + no + ", 1)", -1, y -> y.meet(no, 1));
            Twins.nothingHappens("meet(1, " + no + ")", -1, y -> y.meet(1, no));
        }
        Twins.nothingHappens("alike", -1, y -> y.meet(1, 1));
        Twins.nothingHappens("no street", -1, y -> y.meet(0, 2));
        Twins.nothingHappens("no street", -1, y -> y.meet(2, 0));
        Twins.nothingHappens("no town", -1, y -> y.meet(0, 1), DailyLie::new);
    }

    private static void hour() {
        Doc.promise(13);
        Check.quote("An HOUR goes by: HOUR");
        DailyLie x = Check.inTown("facts 1 0");
        Check.due("without people, too", x.hour(), 1);
        Check.due("once more", x.hour(), 2);
        Check.due("HOUR", x.count(7), 2);
        Check.quote("NONE, and nothing happens, without a TOWN, or at HOUR 23.");
        Twins.nothingHappens("no town", -1, DailyLie::hour, DailyLie::new);
        Check.due("to hour 23", atHour(23).count(7), 23);
        Twins.nothingHappens("at hour 23", -1, DailyLie::hour, () -> atHour(23));
        Check.due("at hour 22", atHour(22).hour(), 23);
    }

    private static DailyLie atHour(int hour) {
        DailyLie x = Twins.lively();
        for (int i = x.count(7); i < hour; i++) {
            x.hour();
        }
        return x;
    }

    private static void midnight() {
        Doc.promise(14);
        Check.quote("MIDNIGHT: DAY");
        DailyLie x = Check.inTown("facts 1 0");
        Check.due("without people, too", x.midnight(), 1);
        Check.due("once more", x.midnight(), 2);
        Check.due("DAY", x.count(6), 2);
        Check.due("at hour 23", atHour(23).midnight(), 2);
        Check.quote("NONE, and nothing happens, without a TOWN, or at DAY 9999.");
        Twins.nothingHappens("no town", -1, DailyLie::midnight, DailyLie::new);
        Twins.nothingHappens("at the last day", -1, DailyLie::midnight, LifeEdges::onTheLastDay);
    }

    private static DailyLie onTheLastDay() {
        DailyLie x = nearTheLastDay();
        x.run(0, 73);
        x.say(0, 1, 0, 1);
        x.hour();
        return x;
    }

    private static void undo() {
        Doc.promise(15);
        Check.quote("The last ACT is UNDONE: how many more can be");
        DailyLie x = Check.inTown(TWO);
        x.hour();
        x.say(0, 1, 0, 1);
        x.hour();
        Check.due("an hour", x.undo(), 2);
        Check.due("HOUR", x.count(7), 1);
        Check.due("a saying", x.undo(), 1);
        Check.held(x, 1, 0, 2, 0, 2);
        Check.due("an hour", x.undo(), 0);
        Check.due("HOUR", x.count(7), 0);
        Check.quote("NONE, and nothing happens: none can.");
        Twins.nothingHappens("none was done", -1, DailyLie::undo, () -> Check.inTown(TWO));
        Twins.nothingHappens("all are undone", -1, DailyLie::undo, LifeEdges::allUndone);
        Twins.nothingHappens("no town", -1, DailyLie::undo, DailyLie::new);
        Twins.nothingHappens("behind a run", -1, DailyLie::undo, LifeEdges::behindARun);
        Twins.nothingHappens("behind going back", -1, DailyLie::undo, LifeEdges::goneBack);
    }

    private static DailyLie allUndone() {
        DailyLie x = Twins.lively();
        for (int left = x.count(12); left > 0; left--) {
            x.undo();
        }
        return x;
    }

    private static DailyLie behindARun() {
        DailyLie x = Twins.lively();
        x.run(0, 3);
        return x;
    }

    private static DailyLie goneBack() {
        DailyLie x = Twins.lively();
        x.back(2);
        return x;
    }

    private static void run() {
        Doc.promise(16);
        Check.quote("BY A RULE n HOURS (1 to 96): LIES told in these");
        DailyLie x = Check.byCharter(TWO, "lie hour < 2;say 1");
        x.say(0, 1, 0, 0);
        Check.due("an hour", x.run(0, 1), 1);
        Check.due("HOUR", x.count(7), 1);
        Check.due("96 hours", x.run(0, 96), 8);
        Check.due("DAY", x.count(6), 4);
        Check.due("HOUR", x.count(7), 1);
        Check.due("95 hours", x.run(0, 95), 7);
        Check.due("DAY", x.count(6), 8);
        Check.due("HOUR", x.count(7), 0);
        Check.quote("NONE, and nothing happens, without these (a TOWN with PEOPLE)");
        for (int no : NO_SUCH) {
            Twins.nothingHappens("run(" + no + ", 1)", -1, y -> y.run(no, 1));
        }
        Twins.nothingHappens("run(2, 1) of two", -1, y -> y.run(2, 1));
        for (int n : new int[] {0, -1, 97, 98, Integer.MAX_VALUE, Integer.MIN_VALUE}) {
            Twins.nothingHappens("run(0, " + n + ")", -1, y -> y.run(0, n));
        }
        Twins.nothingHappens("no town", -1, y -> y.run(0, 1), LifeEdges::ruleAlone);
        Twins.nothingHappens("no people", -1, y -> y.run(0, 1), () -> Check.byCharter("facts 1 0", "say 1"));
        Check.quote("or if DAY would be above 9999.");
        Twins.nothingHappens("run(0, 96) at day 9996", -1, y -> y.run(0, 96), LifeEdges::nearTheLastDay);
        Twins.nothingHappens("run(0, 23) at hour 2 of day 9999", -1, y -> y.run(0, 23), LifeEdges::onTheLastDay);
        DailyLie y = nearTheLastDay();
        Check.due("run(0, 95) at day 9996", y.run(0, 95), 95);
        Check.due("DAY", y.count(6), 9999);
        Check.due("HOUR", y.count(7), 23);
        Check.due("run(0, 1) at hour 23 of day 9999", y.run(0, 1), -1);
        DailyLie z = onTheLastDay();
        Check.due("run(0, 21) at hour 2 of day 9999", z.run(0, 21), 21);
        Check.due("HOUR", z.count(7), 23);
        Check.due("DAY", z.count(6), 9999);
    }

    private static DailyLie ruleAlone() {
        DailyLie x = new DailyLie();
        Check.rule(x, "say 1");
        return x;
    }
}
