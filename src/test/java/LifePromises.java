/** Promises 7 to 16 and 30 to 32: what is held and believed, acts, undoing, rules at work, images. */
public final class LifePromises {
    /** FACTS 0 and 2 are so; person 0 knows all, 1 nothing, 2 knows fact 0; streets 0-1 and 1-2. */
    private static final String TOWN = "facts 3 5;person 7;person 0;person 1;trust 1 0 3;trust 2 1 8;street 0 1;"
            + "street 1 2;if 1 1 2 0;harm 1 1 4;harm 2 0 6;harm 0 0 3;child 2";
    private static final int[] ODD = {-1, -2, 3, 7, 8, 31, 32, 33, 1000, Integer.MAX_VALUE, Integer.MIN_VALUE};

    public static void main(String[] args) {
        heldAtFirst();
        persons();
        telling();
        beliefs();
        sayings();
        meetings();
        hoursAndMidnight();
        undoing();
        byARule();
        counts();
        images();
        Check.finish("promises 7 to 16 and 30 to 32");
    }

    private static void heldAtFirst() {
        DailyLie x = Check.inTown(TOWN);
        Check.held(x, 0, 0, 1, 10, 1);
        Check.held(x, 0, 1, 0, 10, 0);
        Check.held(x, 0, 2, 1, 10, 1);
        Check.held(x, 1, 0, 2, 0, 2);
        Check.held(x, 2, 0, 1, 10, 1);
        Check.held(x, 2, 1, 2, 0, 2);
        for (int odd : ODD) {
            Check.due("holds(odd, 0, 0)", x.holds(odd, 0, 0), -1);
            Check.due("holds(0, odd, 0)", x.holds(0, odd, 0), -1);
            Check.due("holds(0, 0, odd)", x.holds(0, 0, odd), -1);
        }
    }

    private static void persons() {
        DailyLie x = Check.inTown(TOWN);
        Check.due("streets of 0", x.person(0, 3), 2);
        Check.due("streets of 1", x.person(1, 3), 5);
        Check.due("streets of 2", x.person(2, 3), 2);
        Check.due("child 1", x.person(1, 4), 0);
        Check.due("child 2", x.person(2, 4), 1);
        Check.due("lied to", x.person(1, 0), 0);
        Check.due("trust 1 0", x.trust(1, 0), 3);
        Check.due("trust 0 1", x.trust(0, 1), 5);
        Check.due("trust 2 1", x.trust(2, 1), 8);
        Check.due("trust 0 2, without a street", x.trust(0, 2), 5);
        Check.due("trust 1 1", x.trust(1, 1), -1);
        for (int odd : ODD) {
            Check.due("person(odd, 0)", x.person(odd, 0), -1);
            Check.due("person(0, odd)", x.person(0, odd), odd == 3 ? 2 : -1);
            Check.due("trust(odd, 0)", x.trust(odd, 0), -1);
            Check.due("trust(0, odd)", x.trust(0, odd), -1);
        }
        Check.due("person(0, 5)", x.person(0, 5), -1);
    }

    private static void telling() {
        DailyLie x = Check.inTown("facts 1 1;person 1;person 0;person 0;person 0;trust 1 0 4;trust 1 2 3;trust 1 3 4;"
                + "trust 0 1 9;trust 3 1 0;street 0 1;street 1 2;street 1 3");
        Check.due("told what is not so", x.say(0, 1, 0, 0), 1);
        Check.held(x, 1, 0, 0, 4, 0);
        Check.due("less trust", x.say(2, 1, 0, 1), 0);
        Check.held(x, 1, 0, 0, 4, 0);
        Check.due("as much trust", x.say(3, 1, 0, 1), 0);
        Check.held(x, 1, 0, 1, 4, 1);
        Check.due("who knows is not moved", x.say(1, 0, 0, 0), 1);
        Check.held(x, 0, 0, 1, 10, 1);
        Check.due("no trust, but nothing is held", x.say(1, 3, 0, 0), 1);
        Check.held(x, 3, 0, 0, 0, 0);
        Check.due("no trust against strength 0", x.say(1, 3, 0, 1), 0);
        Check.held(x, 3, 0, 1, 0, 1);
        DailyLie y = Check.inTown("facts 1 1;person 1;person 0;person 0;trust 1 0 4;trust 1 2 7;street 0 1;street 2 1");
        y.say(0, 1, 0, 1);
        Check.held(y, 1, 0, 1, 4, 1);
        y.say(2, 1, 0, 1);
        Check.held(y, 1, 0, 1, 7, 1);
    }

    private static void beliefs() {
        DailyLie x = Check.inTown(TOWN);
        x.say(0, 1, 1, 1);
        Check.held(x, 1, 1, 1, 3, 1);
        Check.held(x, 1, 2, 2, 0, 0);
        Check.due("harm of what follows, too", x.person(1, 1), 10);
        Check.due("no contradiction", x.person(1, 2), 0);
        x.say(0, 1, 2, 1);
        Check.held(x, 1, 2, 1, 3, 1);
        Check.due("harm", x.person(1, 1), 4);
        Check.due("a contradiction", x.person(1, 2), 1);
        // The first if in the order told goes ahead, again and again from the start.
        DailyLie y = Check.inTown("facts 4 0;person 0;person 0;street 0 1;if 1 1 2 1;if 0 1 2 0;if 0 1 1 1;if 2 0 3 1");
        y.say(0, 1, 0, 1);
        Check.held(y, 1, 2, 2, 0, 0);
        Check.held(y, 1, 1, 2, 0, 1);
        Check.held(y, 1, 3, 2, 0, 1);
        Check.due("1 so, but not 2", y.person(1, 2), 1);
        DailyLie z = Check.inTown("facts 4 0;person 0;person 0;street 0 1;if 1 1 2 1;if 0 1 1 1;if 0 1 2 0;if 2 1 0 0");
        z.say(0, 1, 0, 1);
        Check.held(z, 1, 2, 2, 0, 1);
        Check.due("two contradictions", z.person(1, 2), 2);
        DailyLie w = Check.inTown("facts 2 0;person 3;person 1;if 0 0 1 1;harm 1 1 99;harm 1 1 98;harm 0 0 1;harm 0 1 50");
        Check.held(w, 1, 1, 2, 0, 1);
        Check.due("all harms together", w.person(1, 1), 198);
        Check.due("who knows better", w.person(0, 1), 1);
        Check.due("known contradictions", w.person(0, 2), 1);
        Check.due("HARM of all", w.count(9), 199);
    }

    private static void sayings() {
        DailyLie x = Check.inTown(TOWN);
        Check.due("would tell", x.would(0, 1, 1, 1), 1);
        Check.due("nothing happens by would", x.holds(1, 1, 0), 2);
        Check.due("no lie by would", x.person(1, 0), 0);
        Check.due("no act by would", x.count(12), 0);
        Check.due("no street", x.say(0, 2, 0, 0), -1);
        Check.due("no street, would", x.would(0, 2, 0, 0), -1);
        Check.due("alike", x.say(1, 1, 0, 0), -1);
        for (int odd : ODD) {
            Check.due("say(odd, ..)", x.say(odd, 1, 0, 0), -1);
            Check.due("say(.., odd, ..)", x.say(1, odd, 0, 0), -1);
            Check.due("say(.., odd, 0)", x.say(0, 1, odd, 0), -1);
            Check.due("say(.., odd)", x.say(0, 1, 0, odd), -1);
            Check.due("would(odd, ..)", x.would(odd, 1, 0, 0), -1);
            Check.due("would(.., odd, ..)", x.would(1, odd, 0, 0), -1);
            Check.due("would(.., odd, 0)", x.would(0, 1, odd, 0), -1);
            Check.due("would(.., odd)", x.would(0, 1, 0, odd), -1);
        }
        Check.due("said 2", x.say(0, 1, 0, 2), -1);
        Check.due("nothing happened", x.count(12), 0);
        Check.due("the truth", x.say(1, 2, 2, 1), 0);
        Check.due("not lied to", x.person(2, 0), 0);
        Check.due("a lie", x.say(1, 2, 0, 0), 1);
        Check.due("a lie is counted though not taken", x.person(2, 0), 1);
        Check.due("LIES that DAY", x.count(8), 1);
        Check.rule(x, "lie heard = 2 and said = 1;lie lies = 1 and fact = 0");
        x.charter(0);
        Check.due("heard nothing of 1", x.say(1, 2, 1, 1), 1);
        Check.due("heard it by now", x.say(1, 2, 1, 1), 0);
        Check.due("lied to twice, not once", x.would(1, 2, 0, 1), 0);
        Check.due("lied to once", x.say(0, 1, 2, 1), 1);
        Check.due("lied to once, of fact 0", x.would(0, 1, 0, 0), 1);
    }

    private static void meetings() {
        String town = "facts 3 5;person 7;person 0;trust 1 0 3;street 1 0;harm 1 1 9";
        DailyLie x = Check.inTown(town);
        Check.due("all is true", x.meet(1, 0), 0);
        Check.held(x, 1, 0, 1, 3, 1);
        Check.held(x, 1, 1, 0, 3, 0);
        Check.held(x, 1, 2, 1, 3, 1);
        Check.due("one act", x.count(12), 1);
        Check.due("nothing is left to say", x.meet(0, 1), 0);
        Check.due("an act all the same", x.count(12), 2);
        // Only what the hearer does not hold just so is said, and both ways.
        DailyLie y = Check.inTown("facts 3 5;person 1;person 2;trust 0 1 2;trust 1 0 2;street 0 1");
        Check.rule(y, "lie second = 1 and hearer = 0");
        Check.rule(y, "lie second = 1 and hearer = 1");
        y.image(0);
        y.charter(0);
        Check.due("1 says fact 1 to 0 alone", y.meet(0, 1), 1);
        Check.held(y, 0, 1, 0, 2, 0);
        Check.held(y, 1, 0, 1, 2, 1);
        y.back(0);
        y.charter(1);
        Check.due("0 says fact 0 to 1 alone", y.meet(0, 1), 1);
        // The hearer who keeps what they hold says it back.
        DailyLie z = Check.inTown("facts 1 0;person 0;person 1;person 0;street 0 1;street 0 2;trust 0 2 5;trust 0 1 4");
        z.say(2, 0, 0, 1);
        Check.held(z, 0, 0, 1, 5, 1);
        Check.due("0 lies to 1, 1 is not believed", z.meet(1, 0), 1);
        Check.held(z, 1, 0, 0, 10, 0);
        Check.held(z, 0, 0, 1, 5, 1);
        Check.due("1 was lied to", z.person(1, 0), 1);
        DailyLie w = Check.inTown("facts 1 0;person 1;person 0;person 0;street 0 1;street 1 2;trust 1 0 5;trust 1 2 5");
        w.say(2, 1, 0, 1);
        Check.due("the lesser one goes ahead, and is believed", w.meet(1, 0), 0);
        Check.held(w, 1, 0, 0, 5, 0);
        w.say(2, 1, 0, 1);
        Check.due("1 lies to 2", w.meet(2, 1), 1);
        w.say(0, 1, 0, 0);
        w.say(1, 2, 0, 1);
        Check.due("1 undoes it", w.meet(2, 1), 0);
        Check.held(w, 2, 0, 0, 5, 0);
        Check.due("no street", w.meet(0, 2), -1);
        Check.due("alike", w.meet(1, 1), -1);
        for (int odd : ODD) {
            Check.due("meet(odd, 0)", w.meet(odd, 0), -1);
            Check.due("meet(0, odd)", w.meet(0, odd), -1);
        }
        DailyLie v = Check.inTown("facts 2 0;person 0;person 0;person 0;street 0 1;street 1 2;trust 1 0 2");
        v.say(0, 1, 0, 1);
        v.say(0, 1, 1, 1);
        Check.due("two lies passed on", v.meet(2, 1), 2);
        Check.due("a breach by a meeting", v.breach(1), 1);
        v.midnight();
        v.say(1, 2, 0, 0);
        v.say(1, 2, 1, 0);
        Check.due("one says 1 1, two takes it and has nothing to say back", v.meet(1, 2), 2);
        Check.due("two breached", v.breach(1), 2);
    }

    private static void hoursAndMidnight() {
        DailyLie x = Check.inTown(TOWN);
        for (int hour = 1; hour <= 23; hour++) {
            Check.due("hour()", x.hour(), hour);
        }
        Check.due("hour() at 23", x.hour(), -1);
        Check.due("HOUR", x.count(7), 23);
        x.say(0, 1, 1, 1);
        Check.due("midnight()", x.midnight(), 1);
        Check.due("HOUR", x.count(7), 0);
        Check.due("nobody was lied to", x.person(1, 0), 0);
        Check.due("LIES that DAY", x.count(8), 0);
        Check.held(x, 1, 1, 1, 3, 1);
        Check.due("midnight()", x.midnight(), 2);
        DailyLie y = Check.inTown(TOWN + ";correct");
        y.say(0, 1, 1, 1);
        y.say(0, 1, 0, 1);
        Check.due("midnight()", y.midnight(), 1);
        Check.held(y, 1, 1, 2, 0, 2);
        Check.held(y, 1, 2, 2, 0, 2);
        Check.held(y, 1, 0, 1, 3, 1);
        Check.held(y, 0, 1, 0, 10, 0);
        Check.due("HARM is gone", y.person(1, 1), 0);
    }

    private static void undoing() {
        DailyLie x = Check.inTown(TOWN);
        Check.due("nothing to undo", x.undo(), -1);
        x.say(0, 1, 1, 1);
        x.say(0, 1, 2, 0);
        Check.due("breach", x.breach(1), 1);
        x.hour();
        x.midnight();
        x.meet(1, 2);
        Check.due("5 acts", x.count(12), 5);
        Check.due("undo meet", x.undo(), 4);
        Check.held(x, 2, 1, 2, 0, 2);
        Check.due("undo midnight", x.undo(), 3);
        Check.due("HOUR", x.count(7), 1);
        Check.due("DAY", x.count(6), 0);
        Check.due("lied to", x.person(1, 0), 2);
        Check.due("breach", x.breach(1), 1);
        Check.due("undo hour", x.undo(), 2);
        Check.due("HOUR", x.count(7), 0);
        Check.due("undo say", x.undo(), 1);
        Check.due("no breach", x.breach(1), -2);
        Check.held(x, 1, 2, 2, 0, 0);
        Check.due("undo say", x.undo(), 0);
        Check.held(x, 1, 1, 2, 0, 2);
        Check.due("all undone", x.undo(), -1);
        for (int i = 1; i <= 23; i++) {
            x.hour();
        }
        Check.due("20 acts at most", x.count(12), 20);
        for (int i = 19; i >= 0; i--) {
            Check.due("undo", x.undo(), i);
        }
        Check.due("undo", x.undo(), -1);
        Check.due("HOUR", x.count(7), 3);
        x.hour();
        x.charter(-1);
        x.seed(5);
        x.stated(0, 0, 0);
        x.tale(0, true);
        Check.due("undo", x.undo(), 0);
        Check.due("x stays", x.count(13), 5);
        Check.due("STATED stays", x.count(10), 1);
        Check.due("TALES stay", x.count(11), 1);
    }

    private static void byARule() {
        DailyLie x = Check.inTown(TOWN);
        Check.rule(x, "lie said = 1 and heard = 2;say harm + 1 if heard = 2 and said = 1");
        // Hour 0: 0 to 1, of facts nothing is heard of, harm 0, 4, 0: fact 1 with 5; without a charter a lie.
        x.hour();
        x.undo();
        x.hour();
        x.undo();
        Check.due("run(0, 1)", x.run(0, 1), 1);
        Check.held(x, 1, 1, 1, 3, 1);
        Check.due("HOUR", x.count(7), 1);
        Check.due("nothing can be undone", x.undo(), -1);
        // Hour 1: 1 to 0 nothing (all heard), to 2: facts 1 with 5, 2 with 1.
        Check.due("run(0, 1)", x.run(0, 1), 1);
        Check.held(x, 2, 1, 1, 8, 1);
        Check.held(x, 2, 2, 2, 0, 0);
        // Hour 2: 2 to 1: fact 0 alone, with 1: so it is.
        Check.due("run(0, 1)", x.run(0, 1), 0);
        Check.held(x, 1, 0, 1, 5, 1);
        Check.due("nothing more to say", x.run(0, 20), 0);
        Check.due("HOUR", x.count(7), 23);
        Check.due("DAY", x.count(6), 0);
        Check.due("lied to", x.person(2, 0), 1);
        Check.due("midnight behind hour 23", x.run(0, 1), 0);
        Check.due("HOUR", x.count(7), 0);
        Check.due("DAY", x.count(6), 1);
        Check.due("lied to", x.person(2, 0), 0);
        x.hour();
        Check.due("96 hours", x.run(0, 96), 0);
        Check.due("DAY", x.count(6), 5);
        Check.due("HOUR", x.count(7), 1);
        for (int n : new int[] {0, -1, 97, Integer.MAX_VALUE, Integer.MIN_VALUE}) {
            Check.due("run(0, n)", x.run(0, n), -1);
        }
        x.hour();
        for (int odd : ODD) {
            Check.due("run(odd, 1)", x.run(odd, 1), -1);
        }
        Check.due("run(1, 1)", x.run(1, 1), -1);
        Check.due("an act ahead of what was refused", x.count(12), 1);
        Check.town(x, "facts 1 1");
        Check.due("nobody", x.run(0, 1), -1);
        order();
        clauses();
    }

    private static void order() {
        DailyLie x = Check.inTown("facts 2 1;person 0;person 0;person 0;street 0 2;street 0 1;street 1 2");
        Check.rule(x, "say 1");
        Check.rule(x, "say fact + 1");
        Check.rule(x, "say said + 1");
        Check.rule(x, "say hearer + 1");
        Check.rule(x, "say 0 - 1");
        Check.rule(x, "lie 1 = 1;lie 2 = 1");
        x.image(0);
        x.run(0, 1);
        Check.due("the first of all", x.holds(1, 0, 0), 0);
        x.back(0);
        x.run(1, 1);
        Check.due("the greatest fact, 0 ahead of 1", x.holds(1, 1, 0), 0);
        Check.due("not of another fact", x.holds(1, 0, 0), 2);
        x.back(0);
        x.run(2, 1);
        Check.due("1 of the first fact", x.holds(1, 0, 0), 1);
        x.back(0);
        x.run(3, 1);
        Check.due("to the greatest hearer", x.holds(2, 0, 0), 0);
        x.back(0);
        x.run(4, 48);
        x.run(5, 48);
        Check.due("nothing is said if not above 0", x.holds(1, 0, 0), 2);
        Check.due("DAY", x.count(6), 4);
        x.back(0);
        x.charter(5);
        Check.due("each hour a lie by the charter", x.run(0, 30), 30);
        Check.due("LIES that DAY", x.count(8), 6);
        x.back(0);
        x.charter(5);
        x.run(0, 3);
        Check.due("0 told 1", x.person(1, 0), 1);
        Check.due("1 and 2 told 0", x.person(0, 0), 2);
        Check.due("breach at", x.breach(0), 2);
        Check.due("breach of", x.breach(1), 0);
    }

    private static void clauses() {
        DailyLie x = Check.inTown("facts 2 1;person 0;person 0;street 0 1");
        Check.rule(x, "say 0 if said = 0;lie 1 = 1;say 2 if fact = 1;say 1");
        Check.rule(x, "say 5 if fact = 7");
        x.image(0);
        Check.due("the first that holds", x.run(0, 1), 1);
        Check.due("fact 1, said 1", x.holds(1, 1, 0), 1);
        Check.due("not of fact 0", x.holds(1, 0, 0), 2);
        x.back(0);
        Check.due("none holds", x.run(1, 24), 0);
        Check.due("nothing said", x.holds(1, 0, 0), 2);
    }

    private static void counts() {
        DailyLie x = Check.inTown(TOWN);
        Check.rule(x, "say 1");
        x.charter(0);
        x.seed(9);
        x.hour();
        x.midnight();
        x.hour();
        x.hour();
        x.say(0, 1, 1, 1);
        x.stated(1, 1, 1);
        x.tale(1, false);
        x.tale(2, false);
        x.feed(0, 0, 0, 0, 0);
        int[] want = {3, 5, 3, 2, 1, 0, 1, 2, 1, 10, 1, 2, 5, 9, 20};
        for (int what = 0; what < want.length; what++) {
            Check.due("count(" + what + ")", x.count(what), want[what]);
        }
        for (int what : new int[] {-1, 15, 16, Integer.MAX_VALUE, Integer.MIN_VALUE}) {
            Check.due("count(" + what + ")", x.count(what), -1);
        }
    }

    private static void images() {
        DailyLie x = new DailyLie();
        for (int k : new int[] {-1, 4, Integer.MAX_VALUE, Integer.MIN_VALUE}) {
            Check.due("image(" + k + ")", x.image(k), -1);
            Check.due("back(" + k + ")", x.back(k), -1);
        }
        Check.due("never made", x.back(3), -1);
        Check.due("an image without a town", x.image(3), 0);
        Check.town(x, TOWN);
        Check.rule(x, "lie said = 1");
        x.charter(0);
        x.say(0, 1, 1, 1);
        x.say(0, 1, 2, 1);
        x.midnight();
        x.say(0, 1, 2, 1);
        x.say(0, 1, 2, 1);
        x.hour();
        x.stated(0, 0, 1);
        x.tale(3, true);
        x.seed(77);
        Check.due("image(0)", x.image(0), 1);
        Check.due("an image leaves the acts", x.count(12), 6);
        x.charter(-1);
        x.seed(1);
        x.stated(-1, 0, 0);
        x.tale(4, true);
        x.midnight();
        x.midnight();
        Check.rule(x, "say 1");
        Check.due("image(1)", x.image(1), 3);
        x.hour();
        x.feed(0, 0, 0, 0, 0);
        Check.due("back(0)", x.back(0), 1);
        int[] want = {3, 5, 3, 2, 2, 0, 1, 1, 2, 10 - 6, 1, 1, 0, 77, 20};
        for (int what = 0; what < want.length; what++) {
            Check.due("back(0), count(" + what + ")", x.count(what), want[what]);
        }
        Check.due("the breach is back", x.breach(0), 0);
        Check.due("who, too", x.breach(1), 1);
        Check.due("tales are back", x.schedules(4, 1, 1), 8);
        Check.due("nothing can be undone", x.undo(), -1);
        Check.held(x, 1, 1, 1, 3, 1);
        x.end(0);
        Check.town(x, "facts 1 0;person 0");
        Check.due("images stay in a new town", x.back(1), 3);
        Check.due("CHARTER", x.count(5), -1);
        Check.due("x", x.count(13), 1);
        Check.due("TALES", x.count(11), 2);
        Check.due("PEOPLE", x.count(2), 3);
        x.say(0, 1, 0, 0);
        Check.due("an image is not changed by what comes", x.back(1), 3);
        Check.due("nobody was lied to", x.count(8), 0);
        Check.due("image(1) again", x.image(1), 3);
        Check.due("back to no town", x.back(3), 0);
        Check.due("no town", x.hour(), -1);
        Check.due("FACTS", x.count(0), 0);
        Check.due("RULES stay", x.count(4), 2);
    }
}
