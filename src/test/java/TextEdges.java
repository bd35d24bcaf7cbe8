/** Terms I and promises 1 to 6: each sentence about a text, the tape, a rule or the charter with its edges. */
final class TextEdges {
    private static final String TWO = "facts 1 0;person 0;person 0";
    private static final String MOST_NEGATIVE = "65536 * 65536 * 65536 * 32768";

    private TextEdges() {
    }

    static void check() {
        Doc.terms(1);
        townText();
        factsAndPeople();
        trustAndStreets();
        ifsHarmsChildren();
        townNumbers();
        ruleText();
        values();
        words();
        arithmetic();
        ruleLimits();
        faults();
        faultsOfNumbers();
        faultsOfLimits();
        leastOfOnePlace();
        newObject();
        feed();
        end();
        town();
        rule();
        charter();
    }

    private static void townText() {
        Check.quote("A TOWN is a text of at most 400 bytes");
        String text = "facts 1 0;person 0";
        Check.townFine(text + " ".repeat(382), 1);
        Check.townFine(" ".repeat(382) + text, 1);
        Check.townFine(" ".repeat(381) + text, 1);
        Check.townFine("facts 1 0;" + " ".repeat(383) + "correct", 0);
        Check.townFault("facts 1 0;" + " ".repeat(384) + "^correc", 0);
        Check.townFault("facts 1 0;person 0;" + " ".repeat(376) + "child^", 0);
        Check.quote("CLAUSE { ; CLAUSE }, 40 at most");
        Check.townFine("facts 1 0", 0);
        Check.townFine(text + ";child 0".repeat(37), 1);
        Check.townFine(text + ";child 0".repeat(38), 1);
        Check.townFault(text + ";child 0".repeat(38) + ";^child 0", 4);
        Check.townFault(text + ";child 0".repeat(38) + ";^child 0;child 0", 4);
        Check.townFault("^;" + text, 0);
        Check.townFault(text + ";^", 0);
        Check.townFault("facts 1 0;^;person 0", 0);
        Check.townFault("facts 1 0 ^person 0", 0);
    }

    private static void factsAndPeople() {
        Check.quote("facts NUMBER NUMBER (FACTS 1 to 8; those that are so, as bits; once, the first CLAUSE)");
        Check.townFault("facts ^0 0", 1);
        Check.townFault("facts ^9 0", 1);
        Check.townFault("facts ^99999 0", 1);
        for (int facts = 1; facts <= 8; facts++) {
            int all = (1 << facts) - 1;
            DailyLie x = Check.inTown("facts " + facts + " " + all);
            Check.due("FACTS", x.count(0), facts);
            Check.due("all are so", x.count(1), all);
            Check.townFine("facts " + facts + " 0", 0);
            Check.townFault("facts " + facts + " ^" + (all + 1), 1);
        }
        Check.due("none is so", Check.inTown("facts 8 0").count(1), 0);
        Check.townFault("facts 1 0;^facts 1 0", 4);
        Check.townFault("^person 0;facts 1 0", 4);
        Check.quote("person NUMBER (FACTS they know at first, as bits)");
        for (int facts = 1; facts <= 8; facts++) {
            int all = (1 << facts) - 1;
            String text = "facts " + facts + " 0;person ";
            DailyLie x = Check.inTown(text + "0;person " + all + ";person " + (1 << facts - 1));
            Check.held(x, 0, facts - 1, 2, 0, 2);
            Check.held(x, 1, facts - 1, 0, 10, 0);
            Check.held(x, 2, facts - 1, 0, 10, 0);
            Check.due("a fact more", x.holds(1, facts, 0), -1);
            if (facts > 1) {
                Check.held(x, 1, 0, 0, 10, 0);
                Check.held(x, 2, facts - 2, 2, 0, 2);
            }
            Check.townFault(text + "^" + (all + 1), 1);
        }
    }

    private static void trustAndStreets() {
        Check.quote("trust NUMBER NUMBER NUMBER (how much a PERSON trusts another one, that were told, 0 to 9; "
                + "of the same two the last told, 5 without)");
        DailyLie x = Check.inTown(TWO + ";trust 0 1 0;trust 1 0 9");
        Check.due("least", x.trust(0, 1), 0);
        Check.due("most", x.trust(1, 0), 9);
        Check.townFault(TWO + ";trust 0 1 ^10", 1);
        Check.townFault("facts 1 0;trust ^0 1 5", 1);
        Check.townFault("facts 1 0;person 0;trust 0 ^1 5;person 0", 1);
        Check.townFault("facts 1 0;person 0;trust ^1 0 5;person 0", 1);
        Check.townFault(TWO + ";trust ^2 0 5", 1);
        Check.townFault(TWO + ";trust 1 ^2 5", 1);
        DailyLie y = Check.inTown(TWO + ";trust 0 1 7;trust 1 0 3;trust 0 1 2");
        Check.due("the last told", y.trust(0, 1), 2);
        Check.due("the other way round", y.trust(1, 0), 3);
        DailyLie z = Check.inTown(TWO);
        Check.due("5 without", z.trust(0, 1), 5);
        Check.due("5 without", z.trust(1, 0), 5);
        Check.town(y, TWO);
        Check.due("5 without, behind another town", y.trust(0, 1), 5);
        Check.quote("street NUMBER NUMBER (between two PEOPLE that were told and have none yet)");
        Check.townFine(TWO + ";street 1 0", 2);
        Check.townFault("facts 1 0;street ^0 1", 1);
        Check.townFault("facts 1 0;person 0;street 0 ^1;person 0", 1);
        Check.townFault(TWO + ";street ^2 0", 1);
        Check.townFault(TWO + ";street 0 ^0", 1);
        Check.townFault(TWO + ";street 0 1;street 0 ^1", 1);
        Check.townFault(TWO + ";street 0 1;street 1 ^0", 1);
        Check.townFine(TWO + ";person 0;street 0 1;street 1 2;street 2 0", 3);
    }

    private static void ifsHarmsChildren() {
        Check.quote("if NUMBER NUMBER NUMBER NUMBER (a FACT, 0 or 1; another FACT, 0 or 1: from the one so the other so "
                + "follows)");
        for (int way = 0; way < 8; way++) {
            int so = way & 1;
            int value = way >> 1 & 1;
            int other = way >> 2;
            DailyLie x = Check.inTown("facts 2 " + so + ";person 1;if 0 " + value + " 1 " + other);
            Check.due("what follows if fact 0 is " + so, x.holds(0, 1, 2), so == value ? other : 2);
        }
        Check.townFine("facts 8 0;if 7 1 0 1;if 0 0 7 0", 0);
        Check.townFault("facts 8 0;if ^8 1 0 1", 1);
        Check.townFault("facts 8 0;if 0 1 ^8 1", 1);
        Check.townFault("facts 8 0;if 0 ^2 1 1", 1);
        Check.townFault("facts 8 0;if 0 1 1 ^2", 1);
        Check.townFault("facts 1 0;if 0 1 ^0 0", 1);
        Check.quote("harm NUMBER NUMBER NUMBER (a FACT, 0 or 1; 1 to 99)");
        DailyLie x = Check.inTown("facts 8 128;person 129;harm 7 1 1;harm 0 0 99;harm 7 0 5;harm 0 1 7");
        Check.due("HARM", x.person(0, 1), 100);
        Check.townFault("facts 8 0;harm ^8 0 1", 1);
        Check.townFault("facts 8 0;harm 0 ^2 1", 1);
        Check.townFault("facts 8 0;harm 0 0 ^0", 1);
        Check.townFault("facts 8 0;harm 0 0 ^100", 1);
        Check.quote("child NUMBER (a PERSON that was told)");
        DailyLie y = Check.inTown("facts 1 0" + ";person 0".repeat(7) + ";child 0;child 6;child 6");
        for (int person = 0; person < 7; person++) {
            Check.due("child", y.person(person, 4), person % 6 == 0 ? 1 : 0);
        }
        Check.townFault("facts 1 0;child ^0;person 0", 1);
        Check.townFault("facts 1 0;person 0;child ^1;person 0", 1);
        Check.townFault("facts 1 0" + ";person 0".repeat(7) + ";child ^7", 1);
        Check.quote("correct (at midnight; once at most)");
        Check.townFine("facts 1 0;correct", 0);
        Check.townFault("facts 1 0;correct;^correct", 4);
        Check.townFault("facts 1 0;correct;person 0;^correct", 4);
    }

    private static void townNumbers() {
        Check.quote("FACTS 0 and on; PEOPLE 0 to 6, STREETS 0 to 9, IFS 0 to 9, HARMS 0 to 9, in the order told.");
        DailyLie x = Check.inTown("facts 3 0;person 1;person 2;person 4;person 0;person 3;person 5;person 6");
        int[] knows = {1, 2, 4, 0, 3, 5, 6};
        for (int person = 0; person < 7; person++) {
            for (int fact = 0; fact < 3; fact++) {
                Check.due("known", x.holds(person, fact, 0), (knows[person] >> fact & 1) == 1 ? 0 : 2);
            }
        }
        Check.due("no eighth person", x.holds(7, 0, 0), -1);
        Check.townFault("facts 1 0" + ";person 0".repeat(7) + ";^person 0", 4);
        String streets = "facts 1 0;person 0;person 0;person 0;person 0;person 0;street 4 3;street 4 2;street 4 1;"
                + "street 4 0;street 3 2;street 3 1;street 3 0;street 2 1;street 2 0;street 1 0";
        DailyLie y = Check.inTown(streets);
        Check.due("10 streets", y.count(3), 10);
        Check.due("the last four of 0 are 3, 6, 8, 9", y.walls(0, 4, 1), 15);
        Check.due("streets of 0 to 1", y.walls(0, 1, 1), 4 + 32 + 128 + 512);
        Check.townFault(streets + ";^street 0 1", 4);
        Check.townFine("facts 2 0" + ";if 0 0 1 0".repeat(10), 0);
        Check.townFault("facts 2 0" + ";if 0 0 1 0".repeat(10) + ";^if 0 0 1 0", 4);
        // Ten ifs that all say the same but the first: that one goes ahead, the others are contradictions.
        DailyLie z = Check.inTown("facts 2 0;person 1;if 0 0 1 1" + ";if 0 0 1 0".repeat(9));
        Check.due("the first if", z.holds(0, 1, 2), 1);
        Check.due("nine contradictions", z.person(0, 2), 9);
        DailyLie w = Check.inTown("facts 1 0;person 1" + ";harm 0 0 99".repeat(10));
        Check.due("10 harms", w.person(0, 1), 990);
        Check.townFault("facts 1 0" + ";harm 0 0 1".repeat(10) + ";^harm 0 0 1", 4);
        Check.quote("It is DAY 0, HOUR 0.");
        Check.due("DAY", w.count(6), 0);
        Check.due("HOUR", w.count(7), 0);
    }

    private static void ruleText() {
        Check.quote("RULES 0 to 5");
        DailyLie x = new DailyLie();
        for (int rule = 0; rule < 6; rule++) {
            Check.due("a rule", Check.rule(x, "say 1"), rule);
        }
        Check.due("a seventh", Check.rule(x, "say 1"), -1);
        Check.quote("texts likewise, 12 CLAUSES at most");
        Check.ruleFine("say 1" + ";say 1".repeat(11) + " ".repeat(400 - 71));
        Check.ruleFine("lie 1=1" + ";lie 1=1".repeat(11));
        Check.ruleFault("say 1" + ";say 1".repeat(11) + ";^say 1", 4);
        Check.ruleFault("lie 1=1" + ";lie 1=1".repeat(11) + ";^lie 1=1", 4);
        Check.ruleFault("^;say 1", 0);
        Check.ruleFault("say 1;^;say 1", 0);
        Check.quote("lie TEST | say SUM [ if TEST ]");
        Check.ruleFine("lie 1 = 1");
        Check.ruleFine("say 1");
        Check.ruleFine("say 1 if 1 = 1");
        Check.ruleFault("lie 1 = 1 ^if 1 = 1", 0);
        Check.ruleFault("lie 1^", 0);
        Check.ruleFault("say^", 0);
        Check.ruleFault("say 1 if^", 0);
        Check.ruleFault("say ^if 1 = 1", 0);
        Check.quote("TEST: PART { or PART }");
        Check.quote("PART: FACT_ { and FACT_ }");
        holds("1=2 or 1=2 or 1=1", 1);
        holds("1=2 or 1=2 or 1=2", 0);
        holds("1=1 and 1=1 and 1=2", 0);
        holds("1=1 and 1=1 and 1=1", 1);
        holds("1=1 or 1=2 and 1=2", 1);
        holds("1=2 and 1=2 or 1=1", 1);
        holds("1=2 and 1=1 or 1=2 and 1=1 or 1=1 and 1=1", 1);
        Check.ruleFault("lie 1=1 or^", 0);
        Check.ruleFault("lie 1=1 and^", 0);
        Check.ruleFault("lie ^or 1=1", 0);
        Check.ruleFault("lie 1=1 and ^or 1=1", 0);
        Check.quote("FACT_: not FACT_ | [ TEST ] (these brackets are signs) | SUM SIGN SUM, SIGN one of < <= = >= >");
        holds("not 1=2 and 1=1", 1);
        holds("not 1=1 or 1=1", 1);
        holds("not [1=1 or 1=1]", 0);
        holds("[1=1 or 1=1] and 1=2", 0);
        holds("[[1=1]]", 1);
        signs();
        Check.ruleFault("lie [1=1^", 0);
        Check.ruleFault("lie [^]", 0);
        Check.ruleFault("lie 1=1^]", 0);
        Check.ruleFault("lie [1=1] ^= 1", 0);
        Check.ruleFault("lie 1 ^!= 1", 0);
        Check.ruleFault("lie 1 < ^= 1", 0);
        Check.ruleFault("lie 1 =^> 1", 0);
        Check.ruleFault("lie 1 <^> 1", 0);
        Check.ruleFault("lie 1 >=^= 1", 0);
        Check.ruleFault("lie 1 = 1 ^= 1", 0);
    }

    private static void signs() {
        String[] signs = {"<", "<=", "=", ">=", ">"};
        int[] whenLess = {1, 1, 0, 0, 0};
        int[] whenSame = {0, 1, 1, 1, 0};
        for (int i = 0; i < 5; i++) {
            holds("4" + signs[i] + "5", whenLess[i]);
            holds("5" + signs[i] + "5", whenSame[i]);
            holds("5" + signs[i] + "4", whenLess[4 - i]);
        }
    }

    /** Whether a test holds of what 0 says to 1 of fact 0, which is not so: that it is. */
    private static void holds(String test, int want) {
        DailyLie x = Check.byCharter(TWO + ";street 0 1", "lie " + test);
        Check.due(test, x.would(0, 1, 0, 1), want);
    }

    private static void values() {
        Check.quote("SUM: TERM { (+ or -) TERM }");
        holds("9 - 4 - 3 = 2", 1);
        holds("9 - 4 + 3 = 8", 1);
        holds("9 - 4 = 9 or 9 - 4 = 4 or 9 - 4 = 13 or 9 - 4 + 3 = 2", 0);
        holds("9 + 4 = 9 or 9 + 4 = 4 or 9 + 4 = 5 or 9 - 4 - 3 = 8", 0);
        holds("1 + 2 + 3 + 4 = 10", 1);
        Check.ruleFault("say 1 +^", 0);
        Check.ruleFault("say ^+ 1", 0);
        Check.ruleFault("say ^- 1", 0);
        Check.ruleFault("say 1 - ^- 1", 0);
        Check.quote("TERM: VALUE { (* or / or %) VALUE }");
        holds("2 * 9 / 4 = 4", 1);
        holds("2 * 9 / 4 = 5 or 9 / 4 = 1 or 9 / 4 = 9 or 9 / 4 = 4", 0);
        holds("9 % 4 = 0 or 9 % 4 = 9 or 9 % 4 = 4 or 9 % 4 = 2", 0);
        holds("9 * 4 = 0 or 9 * 4 = 9 or 9 * 4 = 4 or 9 * 4 = 13", 0);
        holds("9 / 4 * 2 = 4", 1);
        holds("9 % 5 * 2 = 8", 1);
        holds("2 + 3 * 4 - 10 / 5 = 12", 1);
        Check.ruleFault("say 1 *^", 0);
        Check.ruleFault("say ^* 1", 0);
        Check.ruleFault("say 1 * ^/ 1", 0);
        Check.quote("VALUE: NUMBER (1 to 5 digits, as far as digits go on) | WORD");
        holds("99999 = 99998 + 1", 1);
        holds("00000 = 0 and 00012 = 12 and 7 = 07", 1);
        Check.ruleFault("say ^100000", 1);
        Check.ruleFault("say ^000000", 1);
        Check.ruleFault("say ^" + "9".repeat(396), 1);
        Check.ruleFault("say 1 ^2", 0);
        Check.ruleFault("say 12^so", 0);
        Check.ruleFault("say so^1", 0);
        Check.townFault("facts ^000001 0", 1);
        Check.townFine("facts 00001 00000", 0);
    }

    private static void words() {
        Check.quote("WORDS (small letters, as far as these go on) of a SAYING: teller, hearer, fact, said (0 or 1)");
        Check.ruleFault("say ^sos", 0);
        Check.ruleFault("say ^soz", 0);
        Check.ruleFault("say ^aso", 0);
        Check.townFault("facts 1 0;^correctz", 0);
        Check.townFault("facts 1 0;correct^{", 0);
        Check.townFault("facts 1 0;correct^`", 0);
        Check.ruleFault("say ^s", 0);
        Check.ruleFault("say so^S", 0);
        Check.ruleFault("say ^SO", 0);
        Check.ruleFault("^sayso", 0);
        Check.ruleFault("say ^tellerhearer", 0);
        String town = "facts 8 1" + ";person 0".repeat(7) + ";street 6 0;street 5 6";
        DailyLie x = Check.byCharter(town, "lie teller = 6 and hearer = 0 and fact = 7 and said = 1");
        Check.due("just so", x.would(6, 0, 7, 1), 1);
        Check.due("another teller and hearer", x.would(0, 6, 7, 1), 0);
        Check.due("another hearer", x.would(6, 5, 7, 1), 0);
        Check.due("another fact", x.would(6, 0, 6, 1), 0);
        Check.due("0 is said", x.would(6, 0, 7, 0), 0);
        Check.quote("so (1 if the FACT is so, else 0)");
        DailyLie y = Check.byCharter(town, "lie so = 1");
        Check.due("so", y.would(6, 0, 0, 0), 1);
        Check.due("not so", y.would(6, 0, 1, 1), 0);
        beliefWords();
        dayWords();
        harmWord();
        secondWord();
        Check.quote("hour, day");
        DailyLie z = Check.byCharter(TWO + ";street 0 1", "lie hour = 23 and day = 2");
        z.midnight();
        z.midnight();
        for (int hour = 0; hour < 23; hour++) {
            Check.due("not yet", z.would(0, 1, 0, 0), 0);
            z.hour();
        }
        Check.due("hour 23 of day 2", z.would(0, 1, 0, 0), 1);
        z.midnight();
        Check.due("hour 0 of day 3", z.would(0, 1, 0, 0), 0);
    }

    private static void beliefWords() {
        // Of fact 0 (not so) 0 knows it, 1 knows nothing; of fact 1 each believes what follows.
        String town = "facts 3 0;person 1;person 0;street 0 1;if 0 0 1 1";
        Check.quote("holds (what the teller BELIEVES: 0, 1, 2 nothing)");
        for (int value = 0; value < 3; value++) {
            DailyLie x = Check.byCharter(town, "lie holds = " + value);
            Check.due("what is held", x.would(0, 1, 0, 1), value == 0 ? 1 : 0);
            Check.due("what follows", x.would(0, 1, 1, 1), value == 1 ? 1 : 0);
            Check.due("nothing", x.would(0, 1, 2, 1), value == 2 ? 1 : 0);
            Check.due("nothing", x.would(1, 0, 0, 1), value == 2 ? 1 : 0);
        }
        Check.quote("heard (what the hearer BELIEVES)");
        for (int value = 0; value < 3; value++) {
            DailyLie x = Check.byCharter(town, "lie heard = " + value);
            Check.due("what is held", x.would(1, 0, 0, 1), value == 0 ? 1 : 0);
            Check.due("what follows", x.would(1, 0, 1, 1), value == 1 ? 1 : 0);
            Check.due("nothing", x.would(1, 0, 2, 1), value == 2 ? 1 : 0);
            Check.due("nothing", x.would(0, 1, 0, 1), value == 2 ? 1 : 0);
        }
    }

    private static void dayWords() {
        Check.quote("lies (how often the hearer was lied to that DAY)");
        DailyLie x = Check.byCharter(TWO + ";street 0 1", "lie lies < 2");
        Check.due("never so far", x.say(0, 1, 0, 0), 1);
        Check.due("once so far", x.say(0, 1, 0, 0), 1);
        Check.due("twice so far", x.say(0, 1, 0, 0), 0);
        Check.due("the teller's are others", x.would(1, 0, 0, 0), 1);
        x.midnight();
        Check.due("a new day", x.would(0, 1, 0, 0), 1);
        Check.quote("child (1 if the hearer is one, else 0)");
        DailyLie y = Check.byCharter(TWO + ";street 0 1;child 1", "lie child = 1");
        Check.due("a child hears", y.would(0, 1, 0, 0), 1);
        Check.due("a child tells", y.would(1, 0, 0, 0), 0);
        Check.quote("trust (of the hearer in the teller)");
        DailyLie z = Check.byCharter(TWO + ";street 0 1;trust 0 1 9", "lie trust = 9");
        Check.due("0 trusts 1", z.would(1, 0, 0, 0), 1);
        Check.due("1 trusts 0 less", z.would(0, 1, 0, 0), 0);
        z = Check.byCharter(TWO + ";street 0 1;trust 0 1 9", "lie trust = 5");
        Check.due("5 without", z.would(0, 1, 0, 0), 1);
    }

    private static void harmWord() {
        Check.quote("harm (what the hearer would do if this alone were BELIEVED of it: all HARMS of that FACT so, "
                + "together)");
        String town = "facts 2 0;person 0;person 2;street 0 1;harm 0 1 4;harm 0 0 3;harm 0 1 5;harm 1 0 50;if 0 1 1 0";
        DailyLie x = Check.byCharter(town, "lie harm = 9");
        Check.due("both harms, none of what follows or is believed", x.would(0, 1, 0, 1), 1);
        Check.due("the other way", x.would(0, 1, 0, 0), 0);
        x = Check.byCharter(town, "lie harm = 3");
        Check.due("the other way", x.would(0, 1, 0, 0), 1);
        x = Check.byCharter("facts 1 0;person 0;person 0;street 0 1" + ";harm 0 1 99".repeat(10), "lie harm = 990");
        Check.due("the most", x.would(0, 1, 0, 1), 1);
        Check.due("the other way", x.would(0, 1, 0, 0), 0);
        x = Check.byCharter(town, "lie harm = 0");
        Check.due("no harm of it", x.would(0, 1, 1, 1), 1);
        Check.due("harm of it", x.would(0, 1, 1, 0), 0);
    }

    private static void secondWord() {
        Check.quote("second (1 if it is passed on in a MEETING, else 0)");
        DailyLie x = Check.byCharter("facts 1 0;person 1;person 0;street 0 1", "lie second = 1");
        Check.due("by hand", x.would(0, 1, 0, 0), 0);
        Check.rule(x, "lie second = 0");
        x.charter(1);
        Check.due("0 by hand", x.would(0, 1, 0, 0), 1);
        x.charter(0);
        Check.due("passed on", x.meet(0, 1), 1);
        Check.due("by hand, behind a meeting", x.say(0, 1, 0, 0), 0);
        Check.due("would, behind a meeting", x.would(0, 1, 0, 0), 0);
        Check.rule(x, "say 1 - second");
        Check.due("by a rule", x.run(2, 3), 0);
        Check.due("by a rule it is said", x.holds(1, 0, 0), 0);
        Check.due("in years", x.years(1, 2, 0), 0);
    }

    private static void arithmetic() {
        Check.quote("/ is towards 0, % its rest, both 0 by 0; all goes round in 64 bits");
        holds("9 / 5 = 1 and 9 % 5 = 4 and 4 / 5 = 0 and 4 % 5 = 4", 1);
        // -2^63 is -922337203685477580.8 times 10
        holds(MOST_NEGATIVE + " / 10 * 10 + 0 = " + MOST_NEGATIVE + " + 8", 1);
        holds(MOST_NEGATIVE + " % 10 + 8 = 0", 1);
        holds("7 / 0 = 0 and 7 % 0 = 0 and 0 / 0 = 0 and 0 % 0 = 0", 1);
        holds("7 / 0 + 1 = 1 and 3 + 7 % 0 * 5 = 3", 1);
        holds("7 / 0 > 0 or 7 / 0 < 0 or 7 % 0 > 0 or 7 % 0 < 0 or 0 / 0 > 0 or 0 % 0 > 0", 0);
        holds(MOST_NEGATIVE + " % 10 >= 0 or " + MOST_NEGATIVE + " / 10 * 10 = " + MOST_NEGATIVE + " or 4 / 5 > 0", 0);
        holds(MOST_NEGATIVE + " < 0 and 0 - " + MOST_NEGATIVE + " < 0", 1);
        holds(MOST_NEGATIVE + " - 1 > 0", 1);
        holds(MOST_NEGATIVE + " - 1 + 1 < 0", 1);
        holds("65536 * 65536 * 65536 * 65536 = 0", 1);
        holds("65536 * 65536 * 65536 * 65537 = 65536 * 65536 * 65536", 1);
    }

    private static void ruleLimits() {
        Check.quote("Blanks (32) stand between as one likes");
        Check.townFine("facts1 0;person0;person1;trust0 1 9;street0 1;harm0 0 1;child1;correct", 2);
        Check.townFine("  facts  1  0  ;  person  0  ", 1);
        Check.ruleFine("say1if[1=1]and not[so<=1]or so>1");
        Check.ruleFine("  say  1  +  so  if  [  1  <=  1  ]  or  not  1  =  1  ;  lie  so  >  1  ");
        Check.townFault("^fa cts 1 0", 0);
        Check.townFault("facts 1 0;person 0 ^0", 0);
        Check.townFault("facts 1^\t0", 0);
        Check.townFault("facts 1 0^\n", 0);
        Check.townFault("facts 1 0^\r", 0);
        Check.townFault("facts 1 0^\u0000", 0);
        Check.townFault("facts 1 0^\u001f", 0);
        Check.townFault("facts 1 0^!", 0);
        Check.townFault("facts 1 0^\u00a0", 0);
        Check.quote("[ and not lie within one another 10 deep at most");
        Check.ruleFine("lie " + "[".repeat(10) + "1=1" + "]".repeat(10));
        Check.ruleFault("lie " + "[".repeat(10) + "^[1=1" + "]".repeat(11), 2);
        Check.ruleFine("lie " + "not ".repeat(10) + "1=1");
        Check.ruleFault("lie " + "not ".repeat(10) + "^not 1=1", 2);
        Check.ruleFine("lie " + "not[".repeat(5) + "1=1" + "]".repeat(5));
        Check.ruleFault("lie " + "not[".repeat(5) + "^[1=1", 2);
        Check.ruleFault("lie [" + "not[".repeat(4) + "not ^not 1=1", 2);
        String ten = "not[".repeat(5) + "1=1" + "]".repeat(5);
        Check.ruleFine("say 1 if " + ten + " and " + ten + " or " + ten + ";lie " + ten);
        Check.ruleFault("lie " + ten + " or " + "[".repeat(10) + "1=1 and ^not 1=1", 2);
        holds("not ".repeat(10) + "1=1", 1);
        holds("not ".repeat(9) + "1=1", 0);
        Check.quote("at most 60 VALUES (of SUMS) and FACTS_ made of a SIGN, together.");
        Check.ruleFine("say 1" + "+1".repeat(59));
        Check.ruleFault("say 1" + "+1".repeat(59) + "+^1", 3);
        Check.ruleFine("lie 1=1" + " or 1=1".repeat(19));
        Check.ruleFault("lie 1=1" + " or 1=1".repeat(19) + " or ^1=1", 3);
        Check.ruleFine("say 1" + "+1".repeat(56) + " if not [1=1]");
        Check.ruleFault("say 1" + "+1".repeat(56) + " if not [1=1];say ^1", 3);
        DailyLie x = new DailyLie();
        for (int rule = 0; rule < 3; rule++) {
            Check.due("60 in each rule", Check.rule(x, "say 1" + "+1".repeat(59)), rule);
            Check.due("61", Check.rule(x, "say 1" + "+1".repeat(60)), -2 - (1 + 8 * 124 + 3));
        }
    }

    private static void faults() {
        Check.quote("FAULTS, the first along the text, 1 + 8 * its place and");
        Check.due("of kind 0 at place 0", Check.town(new DailyLie(), "x"), -2 - 1);
        Check.due("of kind 1 at place 6", Check.town(new DailyLie(), "facts 9 0"), -2 - 50);
        Check.due("of kind 4 at place 0", Check.town(new DailyLie(), "person 0"), -2 - 5);
        Check.due("behind 400 bytes", Check.town(new DailyLie(), "facts 1" + " ".repeat(393)), -2 - 3201);
        Check.due("at the last of 400 bytes", Check.town(new DailyLie(), "facts 1" + " ".repeat(392) + "2"), -2 - 3194);
        Check.townFault("facts 1 ^2;facts 9 9;x", 1);
        Check.townFault("facts 1 0;^facts 9 9;x", 4);
        Check.townFault("facts 1 0;^x;facts 9", 0);
        Check.ruleFault("say ^123456 if x", 1);
        Check.ruleFault("say 1 ^x;say 123456", 0);
        Check.quote("0 a byte or WORD that can't stand there");
        for (char sign = 0; sign < 256; sign++) {
            boolean digit = sign >= '0' && sign <= '9';
            if (sign != ' ' && sign != '^' && !digit) {
                Check.townFault("facts ^" + sign, 0);
            }
            if (sign != ' ' && sign != '^' && sign != ';' && !digit) {
                Check.townFault("facts 1 0^" + sign, 0);
            }
            if (sign != ' ' && sign != '^') {
                Check.ruleFault("^" + sign, 0);
            }
        }
        Check.townFault("facts 1 0;^fact", 0);
        Check.townFault("facts 1 0;^persons 0", 0);
        Check.townFault("facts 1 0;^say 1", 0);
        Check.ruleFault("^person 0", 0);
        Check.ruleFault("say ^correct", 0);
        Check.ruleFault("say ^and", 0);
        for (String word : new String[] {"facts", "person", "street", "if", "correct", "lie", "say", "or", "and", "not"}) {
            Check.ruleFault("say ^" + word, 0);
        }
        numbersAreNoSigns();
        Check.quote("or the end (behind the last byte)");
        Check.townFault("^", 0);
        Check.townFault(" ".repeat(400) + "^", 0);
        for (String town : new String[] {"facts", "facts 2", "facts 2 0;", "facts 2 0;if", "facts 2 0;if 0",
            "facts 2 0;if 0 0", "facts 2 0;if 0 0 1", "facts 2 0;harm", "facts 2 0;harm 0", "facts 2 0;harm 0 0",
            "facts 2 0;person", TWO + ";trust", TWO + ";trust 0", TWO + ";trust 0 1", TWO + ";street",
            TWO + ";street 0", TWO + ";child"}) {
            Check.townFault(town + "^", 0);
            Check.townFault(town + "   ^", 0);
        }
        for (String rule : new String[] {"", "lie", "lie 1", "lie 1 =", "lie not", "lie [", "lie [1=1", "lie 1=1 or",
            "lie 1=1 and", "say", "say 1+", "say 1-", "say 1*", "say 1/", "say 1%", "say 1 if", "say 1;"}) {
            Check.ruleFault(rule + "^", 0);
            Check.ruleFault(rule + "  ^", 0);
        }
    }

    /** Nor are they words: numbers that a sign or word has inside stand for nothing but themselves. */
    private static void numbersAreNoSigns() {
        for (int number = 0; number <= 255; number++) {
            Check.townFault("facts 1 0 ^" + number + " person 0", 0);
            Check.townFault("facts 1 0;^" + number + " 0", 0);
            Check.ruleFault("^" + number + " 1", 0);
            Check.ruleFault("say 1 ^" + number + " 1", 0);
            Check.ruleFault("lie 1 ^" + number + " 1", 0);
            Check.ruleFault("lie 1 = 1 ^" + number + " 1 = 1", 0);
            Check.ruleFault("lie [1 = 1 ^" + number, 0);
            Check.ruleFault("lie " + number + " ^1 = 1]", 0);
        }
    }

    private static void faultsOfNumbers() {
        Check.quote("1 a NUMBER of more digits, or not as told");
        for (String town : new String[] {"facts ^", "facts 1 ^", "facts 1 0;person ^", TWO + ";trust ^", TWO + ";trust 0 ^",
            TWO + ";trust 0 1 ^", TWO + ";street ^", TWO + ";street 0 ^", "facts 2 0;if ^", "facts 2 0;if 0 ^",
            "facts 2 0;if 0 0 ^", "facts 2 0;if 0 0 1 ^", "facts 2 0;harm ^", "facts 2 0;harm 0 ^",
            "facts 2 0;harm 0 0 ^", TWO + ";child ^"}) {
            Check.townFault(town + "000001", 1);
            Check.townFault(town + "99999", 1);
            Check.townFault(town + "999999 x", 1);
        }
        Check.ruleFault("lie ^123456 = 1", 1);
        Check.ruleFault("lie 1 = ^123456", 1);
        Check.ruleFault("lie 1 = 1 * ^123456", 1);
        Check.quote("a second PERSON or FACT, if it is the first");
        Check.townFault(TWO + ";trust 1 ^1 5", 1);
        Check.townFault(TWO + ";trust 1 ^00001 5", 1);
        Check.townFault(TWO + ";street 1 ^1", 1);
        Check.townFault("facts 2 0;if 1 0 ^1 1", 1);
        Check.quote("a street that is there, at its second");
        Check.townFault(TWO + ";person 0;street 2 1;street 0 1;street 1 ^2", 1);
        Check.townFault(TWO + ";person 0;street 2 1;street 0 1;street 2 ^1", 1);
        Check.townFault(TWO + ";person 0;street 2 1;street 0 1;street 1 ^0", 1);
    }

    private static void faultsOfLimits() {
        Check.quote("2 too deep (at the sign that opens, or the word not)");
        Check.ruleFault("lie " + "[ ".repeat(10) + " ^[", 2);
        Check.ruleFault("lie " + "[ ".repeat(10) + " ^not", 2);
        Check.ruleFault("lie " + "not ".repeat(10) + " ^[ x", 2);
        Check.ruleFault("lie " + "[ ".repeat(10) + " 1=1 or ^[", 2);
        Check.ruleFault("say 1 if " + "not[".repeat(5) + "^not not", 2);
        Check.quote("3 one VALUE or FACT_ too many (at its first byte; of a FACT_ at its SIGN)");
        String sixty = "say 1" + "+1".repeat(59);
        Check.ruleFault(sixty + "+ ^12345", 3);
        Check.ruleFault(sixty + "+ ^hearer", 3);
        Check.ruleFault(sixty + " if ^1 = 1", 3);
        Check.ruleFault(sixty + ";lie ^1 = 1", 3);
        String fiftyNine = "say 1" + "+1".repeat(58);
        Check.ruleFault(fiftyNine + " if 1  ^<= 1", 3);
        Check.ruleFault(fiftyNine + ";lie so^=x", 3);
        String fiftyEight = "say 1" + "+1".repeat(57);
        Check.ruleFault(fiftyEight + " if 1  <= ^1", 3);
        Check.ruleFault(fiftyEight + " if 1 + 1  ^<= 1", 3);
        Check.quote("4 one CLAUSE too many");
        Check.townFault("facts 1 0;person 0" + ";child 0".repeat(38) + " ; ^child x", 4);
        Check.ruleFault("say 1" + ";say 1".repeat(11) + " ; ^lie x", 4);
        Check.quote("a second facts or correct, another CLAUSE ahead of facts");
        Check.townFault("facts 1 0; ^facts", 4);
        Check.townFault("facts 1 0;correct; ^correct x", 4);
        for (String clause : new String[] {"person 0", "trust 0 1 1", "street 0 1", "if 0 0 1 1", "harm 0 0 1", "child 0",
            "correct"}) {
            Check.townFault("  ^" + clause + ";facts 2 0", 4);
        }
        Check.quote("an eighth PERSON, an 11th STREET, IF or HARM (at its first byte)");
        String people = "facts 2 0" + ";person 0".repeat(7);
        Check.townFault(people + "; ^person", 4);
        Check.townFault(people + ";street 0 1;street 0 2;street 0 3;street 0 4;street 0 5;street 0 6;street 1 2;"
                + "street 1 3;street 1 4;street 1 5; ^street", 4);
        Check.townFault("facts 2 0" + ";if 0 0 1 0".repeat(10) + "; ^if", 4);
        Check.townFault("facts 2 0" + ";harm 0 0 1".repeat(10) + "; ^harm", 4);
    }

    private static void leastOfOnePlace() {
        Check.quote("Of one place the least.");
        String forty = "facts 1 0;person 0" + ";child 0".repeat(38);
        Check.townFault(forty + ";^childs", 0);
        Check.townFault(forty + ";^1", 0);
        Check.townFault(forty + ";^", 0);
        String twelve = "say 1" + ";say 1".repeat(11);
        Check.ruleFault(twelve + ";^says", 0);
        Check.ruleFault(twelve + ";^", 0);
        String sixty = "say 1" + "+1".repeat(59);
        Check.ruleFault(sixty + "+^", 0);
        Check.ruleFault(sixty + "+^sos", 0);
        Check.ruleFault(sixty + "+^[", 0);
        Check.ruleFault(sixty + "+^123456", 1);
        Check.ruleFault(sixty + " ^= 1", 0);
        Check.ruleFault("say 1" + "+1".repeat(58) + " if 1 ^! 1", 0);
        Check.ruleFault("lie " + "[".repeat(10) + "1 = ^[", 0);
        Check.ruleFault("lie " + "[".repeat(10) + "1 = ^not", 0);
        Check.ruleFault("lie " + "not ".repeat(10) + "^nott", 0);
    }

    private static void newObject() {
        Doc.promise(1);
        Check.quote("No TOWN, no RULES, no CHARTER.");
        DailyLie x = new DailyLie();
        for (int what = 0; what < 15; what++) {
            Check.due("count(" + what + ")", x.count(what), what == 5 ? -1 : 0);
        }
        Check.due("no town", x.evening(), -1);
        Check.due("no rule", x.charter(0), -2);
        Check.due("no charter", x.charter(-1), -1);
        x.image(0);
        Check.town(x, "facts 1 0;person 0");
        Check.rule(x, "say 1");
        DailyLie y = new DailyLie();
        Check.due("another object has no image", y.back(0), -1);
        Check.due("another object has no town", y.hour(), -1);
        Check.due("another object has no rule", y.count(4), 0);
    }

    private static void feed() {
        Doc.promise(2);
        Check.quote("Twenty bytes come behind the TAPE, of each number the highest first: how many it has");
        DailyLie x = new DailyLie();
        Check.due("the first", x.feed(0x66616374, 0x73203120, 0x303b7065, 0x72736f6e, 0x20302020), 20);
        Check.due("the second", x.feed(0x3b706572, 0x736f6e20, 0x313b6368, 0x696c6420, 0x31202020), 40);
        Check.due("two people told", x.town(), 2);
        Check.due("the child", x.person(1, 4), 1);
        Check.due("numbers below 0", x.feed(-1, -2, Integer.MIN_VALUE, 0x80808080, 0xff00ff00), 20);
        Check.due("bytes above 127 are no blanks", x.town(), -2 - 1);
        Check.due("behind 3 bytes", feedBehind(3), 23);
        Check.due("behind 380 bytes", feedBehind(380), 400);
        Check.quote("NONE, and none comes, if it would have more than 400.");
        for (int bytes : new int[] {381, 390, 399, 400}) {
            Check.due("behind bytes", feedBehind(bytes), -1);
            Twins.nothingHappens("feed behind " + bytes, -1, y -> y.feed(0, 0, 0, 0, 0), () -> withTape(bytes));
        }
    }

    private static int feedBehind(int bytes) {
        return withTape(bytes).feed(1, 2, 3, 4, 5);
    }

    /** A town of two people on a tape of just so many bytes. */
    private static DailyLie withTape(int bytes) {
        DailyLie x = new DailyLie();
        int padding = Math.max(0, bytes - TWO.length());
        Check.tape(x, (TWO + " ".repeat(padding)).substring(0, bytes));
        return x;
    }

    private static void end() {
        Doc.promise(3);
        Check.quote("The TAPE has its first n bytes alone: n");
        DailyLie x = withTape(30);
        Check.due("all", x.end(30), 30);
        Check.due("one less", x.end(29), 29);
        Check.due("its first 18", x.end(18), 18);
        Check.due("these are a town", x.town(), 1);
        DailyLie y = withTape(400);
        Check.due("400", y.end(400), 400);
        Check.due("none", y.end(0), 0);
        Check.due("none of none", y.end(0), 0);
        Check.due("an empty text", y.town(), -2 - 1);
        Check.quote("NONE, and nothing happens, if it has not so many, or n is below 0.");
        for (int n : new int[] {31, 400, 401, Integer.MAX_VALUE, -1, -30, Integer.MIN_VALUE}) {
            Twins.nothingHappens("end(" + n + ")", -1, z -> z.end(n), () -> withTape(30));
        }
        Twins.nothingHappens("end(1) of none", -1, z -> z.end(1), DailyLie::new);
        Twins.nothingHappens("end(401) of 400", -1, z -> z.end(401), () -> withTape(400));
    }

    private static void town() {
        Doc.promise(4);
        Check.quote("The TAPE, which is empty then, is the TOWN in place of the one there was "
                + "(DAY 0, HOUR 0, nothing STATED, no TALES, nothing to be UNDONE; the CHARTER and x stay)");
        DailyLie x = Twins.lively();
        Check.due("acts", x.count(12) > 0 ? 1 : 0, 1);
        Check.due("town()", x.town(), 1);
        int[] then = {1, 1, 1, 0, 2, 0, 0, 0, 0, 0, 0, 0, 0, 4711, 0};
        for (int what = 0; what < 15; what++) {
            Check.due("count(" + what + ")", x.count(what), then[what]);
        }
        Check.due("undo()", x.undo(), -1);
        Check.due("breach(0)", x.breach(0), -2);
        Check.due("schedules by no tales", x.schedules(10, 1, 0), 10);
        Check.due("truths by nothing stated", x.truths(0), 2);
        Check.held(x, 0, 0, 1, 10, 1);
        Check.due("the people there were", x.person(1, 0), -1);
        Check.due("no harms any more", x.person(0, 1), 0);
        Check.due("no street any more", x.person(0, 3), 0);
        Check.due("the images stay", x.back(0), 0);
        Check.due("with their town", x.count(2), 3);
        Check.town(x, "facts 2 0;person 0;person 0;street 0 1;if 0 1 1 1");
        x.say(0, 1, 0, 1);
        x.midnight();
        Check.held(x, 1, 0, 1, 5, 1);
        Check.due("no child any more", x.person(1, 4), 0);
        townAnew();
        Check.quote("how many PEOPLE");
        for (int people = 0; people <= 7; people++) {
            Check.townFine("facts 1 0" + ";person 0".repeat(people), people);
        }
        Check.quote("-2 - its FAULT, and all stays.");
        for (String text : new String[] {"", "x", "facts 1 0;person 0;person 0;street 0 0", "person 0",
            "facts 8 255" + ";person 255".repeat(8)}) {
            DailyLie faulty = Twins.lively();
            faulty.end(0);
            Check.due("a fault", Check.town(faulty, text) < -2 ? 1 : 0, 1);
            DailyLie twin = Twins.lively();
            twin.end(0);
            Twins.same("behind a town's fault", faulty, twin);
        }
    }

    /** Nothing of the town there was, nor of one with a fault, is left in a new one. */
    private static void townAnew() {
        String full = "facts 2 3;person 3;person 3;person 3;trust 0 1 9;trust 2 0 1;street 0 1;street 1 2;if 0 0 1 1;"
                + "harm 0 0 6;harm 1 1 5;child 0;child 2;correct";
        for (String text : new String[] {full, full + ";", full + ";x"}) {
            DailyLie x = new DailyLie();
            Check.town(x, text);
            Check.due("a plain town", Check.town(x, "facts 2 0;person 1;person 0;person 0;street 0 2"), 3);
            Check.held(x, 0, 0, 0, 10, 0);
            Check.held(x, 0, 1, 2, 0, 2);
            Check.held(x, 1, 0, 2, 0, 2);
            Check.held(x, 2, 1, 2, 0, 2);
            Check.due("HARM", x.count(9), 0);
            Check.due("contradictions", x.person(0, 2), 0);
            Check.due("streets", x.person(0, 3), 4);
            Check.due("streets", x.person(1, 3), 0);
            Check.due("children", x.person(0, 4) + x.person(2, 4), 0);
            Check.due("trust", x.trust(0, 1), 5);
            Check.due("trust", x.trust(2, 0), 5);
            x.say(0, 2, 0, 1);
            x.midnight();
            Check.held(x, 2, 0, 1, 5, 1);
        }
    }

    private static void rule() {
        Doc.promise(5);
        Check.quote("The TAPE, which is empty then, is a RULE: its number");
        DailyLie x = new DailyLie();
        for (int rule = 0; rule < 6; rule++) {
            Check.due("rule()", Check.rule(x, "lie said = 1;say " + rule), rule);
            Check.due("RULES", x.count(4), rule + 1);
            Check.due("bytes of the tape", x.count(14), 0);
        }
        Check.quote("-2 - its FAULT");
        for (String text : new String[] {"", "lie", "say 1;", "say 123456", "lie 1=1;say 1+"}) {
            DailyLie faulty = Twins.lively();
            faulty.end(0);
            Check.due("a fault", Check.rule(faulty, text) < -2 ? 1 : 0, 1);
            DailyLie twin = Twins.lively();
            twin.end(0);
            Twins.same("behind a rule's fault", faulty, twin);
        }
        DailyLie y = Check.inTown(TWO + ";street 0 1");
        Check.due("a fault behind a lie clause", Check.rule(y, "lie said = 0;say 7;x"), -2 - (1 + 8 * 19));
        Check.due("the rule behind it", Check.rule(y, "say 1"), 0);
        y.charter(0);
        Check.due("nothing of the faulty one stays", y.would(0, 1, 0, 0), 0);
        Check.due("nothing of the faulty one stays", y.would(0, 1, 0, 1), 1);
        Check.due("a fault behind a say clause", Check.rule(y, "say 0;x"), -2 - (1 + 8 * 6));
        Check.due("the rule behind it", Check.rule(y, "say 1"), 1);
        y.run(1, 1);
        Check.due("it has its own clause alone", y.holds(1, 0, 0), 0);
        Check.due("a fault behind twelve clauses", Check.rule(y, "say 1;".repeat(12) + "say"), -2 - (1 + 8 * 72 + 4));
        Check.due("the rule behind it", Check.rule(y, "lie 1 = 1"), 2);
        y.charter(2);
        Check.due("it has its own clause", y.would(0, 1, 0, 0), 1);
        for (int i = 0; i < 5; i++) {
            Check.due("a long fault", Check.rule(y, "lie 1=1" + " or 1=1".repeat(19) + "]"), -2 - (1 + 8 * 140));
        }
        Check.due("a rule behind long faults", Check.rule(y, "lie 1=2" + " or 1=2".repeat(18) + " or said=0"), 3);
        y.charter(3);
        Check.due("all of it stands", y.would(0, 1, 0, 0), 1);
        Check.due("all of it stands", y.would(0, 1, 0, 1), 0);
        Check.quote("NONE, and nothing happens: there are 6.");
        Twins.nothingHappens("a seventh rule", -1, DailyLie::rule, () -> withSixRules("say 1"));
        Twins.nothingHappens("a seventh rule with a fault", -1, DailyLie::rule, () -> withSixRules("x"));
        Twins.nothingHappens("a seventh rule, without a text", -1, DailyLie::rule, () -> withSixRules(""));
    }

    private static DailyLie withSixRules(String tape) {
        DailyLie x = Check.inTown(TWO + ";street 0 1");
        for (int rule = 0; rule < 6; rule++) {
            Check.rule(x, "say " + rule + ";lie lies > " + rule);
        }
        x.charter(5);
        Check.tape(x, tape);
        return x;
    }

    private static void charter() {
        Doc.promise(6);
        Check.quote("A RULE is the CHARTER (NONE: none): which was");
        DailyLie x = withSixRules("");
        int was = 5;
        for (int rule : new int[] {0, 0, 5, -1, -1, 3}) {
            Check.due("charter(" + rule + ")", x.charter(rule), was);
            Check.due("CHARTER", x.count(5), rule);
            was = rule;
        }
        Check.quote("-2, and nothing happens, if there is none such.");
        for (int rule : new int[] {-2, 2, 6, 32, Integer.MAX_VALUE, Integer.MIN_VALUE}) {
            Twins.nothingHappens("charter(" + rule + ")", -2, y -> y.charter(rule));
        }
        Twins.nothingHappens("charter(6) of six", -2, y -> y.charter(6), () -> withSixRules(""));
        Twins.nothingHappens("charter(0) of none", -2, y -> y.charter(0), DailyLie::new);
    }
}
