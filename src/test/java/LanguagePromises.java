/** Promises 1 to 6: a new object, the tape, the two languages and their faults. */
public final class LanguagePromises {
    public static void main(String[] args) {
        newObject();
        feedAndEnd();
        towns();
        townFaults();
        townLimits();
        townKeepsAndForgets();
        rules();
        ruleFaults();
        ruleLimits();
        arithmetic();
        charter();
        Check.finish("promises 1 to 6");
    }

    private static void newObject() {
        DailyLie x = new DailyLie();
        for (int what = 0; what <= 14; what++) {
            Check.due("new: count(" + what + ")", x.count(what), what == 5 ? -1 : 0);
        }
        Check.due("NONE", DailyLie.NONE, -1);
        Check.due("new: holds", x.holds(0, 0, 0), -1);
        Check.due("new: person", x.person(0, 0), -1);
        Check.due("new: trust", x.trust(0, 1), -1);
        Check.due("new: say", x.say(0, 1, 0, 0), -1);
        Check.due("new: would", x.would(0, 1, 0, 0), -1);
        Check.due("new: meet", x.meet(0, 1), -1);
        Check.due("new: hour", x.hour(), -1);
        Check.due("new: midnight", x.midnight(), -1);
        Check.due("new: undo", x.undo(), -1);
        Check.due("new: run", x.run(0, 1), -1);
        Check.due("new: breach", x.breach(0), -1);
        Check.due("new: tellers", x.tellers(0), -1);
        Check.due("new: leastLie", x.leastLie(0, 1, 0), -1);
        Check.due("new: evening", x.evening(), -1);
        Check.due("new: walls", x.walls(0, 1, 0), -1);
        Check.due("new: leak", x.leak(0, 0), -1);
        Check.due("new: stated", x.stated(0, 0, 0), -2);
        Check.due("new: truths", x.truths(0), -1);
        Check.due("new: ask", x.ask(0), -1);
        Check.due("new: years", x.years(1, 1, 0), -1);
        Check.due("new: charter", x.charter(0), -2);
        Check.due("new: charter NONE", x.charter(-1), -1);
        Check.due("new: back", x.back(0), -1);
    }

    private static void feedAndEnd() {
        DailyLie x = new DailyLie();
        for (int i = 1; i <= 20; i++) {
            Check.due("feed " + i, x.feed(i, -i, Integer.MIN_VALUE, Integer.MAX_VALUE, 0), 20 * i);
        }
        Check.due("feed on a full tape", x.feed(0, 0, 0, 0, 0), -1);
        Check.due("bytes", x.count(14), 400);
        Check.due("end(401)", x.end(401), -1);
        Check.due("end(-1)", x.end(-1), -1);
        Check.due("end(MIN)", x.end(Integer.MIN_VALUE), -1);
        Check.due("end(400)", x.end(400), 400);
        Check.due("end(381)", x.end(381), 381);
        Check.due("feed with 19 left", x.feed(0, 0, 0, 0, 0), -1);
        Check.due("bytes", x.count(14), 381);
        Check.due("end(380)", x.end(380), 380);
        Check.due("feed with 20 left", x.feed(0, 0, 0, 0, 0), 400);
        Check.due("end(0)", x.end(0), 0);
        Check.due("end(1)", x.end(1), -1);
        Check.due("bytes", x.count(14), 0);
        // "facts 2 1;person 3" with the highest byte of each number first, and two bytes left over
        Check.due("feed", x.feed(0x66616374, 0x73203220, 0x313b7065, 0x72736f6e, 0x2033ff80), 20);
        Check.due("end(18)", x.end(18), 18);
        Check.due("town()", x.town(), 1);
        Check.due("FACTS", x.count(0), 2);
        Check.due("so", x.count(1), 1);
        Check.due("the tape is empty then", x.count(14), 0);
        Check.tape(x, "facts 1");
        Check.tape(x, " 0;person 0");
        Check.due("town of two feeds", x.town(), 1);
    }

    private static void towns() {
        DailyLie x = new DailyLie();
        Check.due("facts alone", Check.town(x, "facts 1 0"), 0);
        Check.due("facts", x.count(0), 1);
        Check.due("8 facts", Check.town(x, "facts 8 255;person 255"), 1);
        Check.due("so", x.count(1), 255);
        Check.due("blanks", Check.town(x, "   facts   2   1  ;  person   3 ;person0;street 0 1  "), 2);
        Check.due("streets", x.count(3), 1);
        Check.due("no blanks", Check.town(x, "facts1 1;person1;person0;trust0 1 9;street1 0;harm0 1 99;child1;correct"), 2);
        Check.due("trust", x.trust(0, 1), 9);
        Check.due("leading zeros", Check.town(x, "facts 00002 00003;person 00000"), 1);
        Check.due("so", x.count(1), 3);
        Check.due("trust told twice", Check.town(x, "facts 1 0;person 0;person 0;trust 0 1 2;trust 0 1 0"), 2);
        Check.due("the last told", x.trust(0, 1), 0);
        Check.due("5 without", x.trust(1, 0), 5);
        Check.due("a child told twice", Check.town(x, "facts 1 0;person 0;child 0;child 0"), 1);
    }

    private static void townFaults() {
        Check.townFault("^", 0);
        Check.townFault("   ^", 0);
        Check.townFault("facts^", 0);
        Check.townFault("facts  ^", 0);
        Check.townFault("facts 1^", 0);
        Check.townFault("facts ^0 0", 1);
        Check.townFault("facts ^9 0", 1);
        Check.townFault("facts 1 ^2", 1);
        Check.townFault("facts 8 ^256", 1);
        Check.townFault("facts ^000001 0", 1);
        Check.townFault("facts 8 ^000001", 1);
        Check.townFault("facts ^x", 0);
        Check.townFault("facts ^- 1", 0);
        Check.townFault("facts 1^x 0", 0);
        Check.townFault("^factss 1 0", 0);
        Check.townFault("^fact 1 0", 0);
        Check.townFault("^Facts 1 0", 0);
        Check.townFault("^1", 0);
        Check.townFault("^;", 0);
        Check.townFault("^\u00e9", 0);
        Check.townFault("^person 0", 4);
        Check.townFault("  ^correct", 4);
        Check.townFault("facts 1 0;^", 0);
        Check.townFault("facts 1 0; ^", 0);
        Check.townFault("facts 1 0;^;", 0);
        Check.townFault("facts 1 0 ^0", 0);
        Check.townFault("facts 1 0^\u0000", 0);
        Check.townFault("facts 1 0^,person 0", 0);
        Check.townFault("facts 1 0;^lie 1", 0);
        Check.townFault("facts 1 0;^facts 1 0", 4);
        Check.townFault("facts 1 0;person ^2", 1);
        Check.townFault("facts 1 0;trust ^0 1 1", 1);
        Check.townFault("facts 1 0;person 0;trust 0 ^0 1", 1);
        Check.townFault("facts 1 0;person 0;trust 0 ^1 1", 1);
        Check.townFault("facts 1 0;person 0;trust 0 ^0 10", 1);
        Check.townFault("facts 1 0;person 0;person 0;trust 0 1 ^10", 1);
        Check.townFault("facts 1 0;person 0;street 0 ^0", 1);
        Check.townFault("facts 1 0;person 0;person 0;street 0 1;street 1 ^0", 1);
        Check.townFault("facts 1 0;person 0;person 0;street 0 1;street 0 ^1", 1);
        Check.townFault("facts 1 0;person 0;street ^1 0;person 0", 1);
        Check.townFault("facts 1 0;person 0;street 0 ^1;person 0", 1);
        Check.townFault("facts 1 0;person 0;street 0 ^7", 1);
        Check.townFault("^" + ";".repeat(400), 0);
        Check.townFault("facts 1 0;person 0^" + "]".repeat(382), 0);
        Check.townFault("facts 1 0;person 0;^" + "a".repeat(381), 0);
        Check.townFault("facts 1 0;person ^" + "1".repeat(383), 1);
        Check.townFault(" ".repeat(391) + "facts 1 ^2", 1);
        Check.townFault("facts 2 0;if 0 0 ^0 1", 1);
        Check.townFault("facts 2 0;if ^2 0 0 1", 1);
        Check.townFault("facts 2 0;if 0 ^2 1 1", 1);
        Check.townFault("facts 2 0;if 0 1 1 ^2", 1);
        Check.townFault("facts 2 0;if 0 1 1^", 0);
        Check.townFault("facts 1 0;if 0 0 ^1 0", 1);
        Check.townFault("facts 1 0;harm 0 0 ^0", 1);
        Check.townFault("facts 1 0;harm 0 0 ^100", 1);
        Check.townFault("facts 1 0;harm 0 ^2 5", 1);
        Check.townFault("facts 1 0;harm ^1 0 5", 1);
        Check.townFault("facts 1 0;child ^0", 1);
        Check.townFault("facts 1 0;correct;^correct", 4);
        Check.townFault("facts 1 0;correct ^1", 0);
        Check.townFault("facts 1 0;^correctcorrect", 0);
        Check.townFault("facts 1 0;^correctz", 0);
        Check.townFault("facts 1 0;^correcta", 0);
        Check.townFault("facts 1 0;correct^{", 0);
        Check.townFault("facts 1 0;correct^`", 0);
        Check.townFault("facts 1^: 0", 0);
        Check.townFault("facts 1^/ 0", 0);
        Check.townFault("facts 1 0^\t;person 0", 0);
    }

    private static void townLimits() {
        String people = "facts 1 0" + ";person 0".repeat(7);
        Check.due("7 people", Check.town(new DailyLie(), people), 7);
        Check.townFault(people + ";^person 2", 4);
        Check.townFault(people + ";^persons", 0);
        StringBuilder streets = new StringBuilder("facts 1 0" + ";person 0".repeat(5));
        for (int a = 0; a < 5; a++) {
            for (int b = a + 1; b < 5; b++) {
                streets.append(";street ").append(a).append(' ').append(b);
            }
        }
        Check.due("10 streets", Check.inTown(streets.toString()).count(3), 10);
        Check.townFault(streets + ";^street 0 0", 4);
        String ifs = "facts 2 0" + ";if 0 0 1 0".repeat(10);
        Check.due("10 ifs", Check.town(new DailyLie(), ifs), 0);
        Check.townFault(ifs + ";^if 9", 4);
        String harms = "facts 2 0" + ";harm 0 0 1".repeat(10);
        Check.due("10 harms", Check.town(new DailyLie(), harms), 0);
        Check.townFault(harms + ";^harm 9", 4);
        String clauses = "facts 1 0;person 0" + ";child 0".repeat(38);
        Check.due("40 clauses", Check.town(new DailyLie(), clauses), 1);
        Check.townFault(clauses + ";^child 9", 4);
        Check.townFault(clauses + ";^facts", 4);
        Check.townFault(clauses + ";^childs", 0);
        Check.townFault(clauses + ";^", 0);
        Check.townFault(clauses + " ^1", 0);
    }

    private static void townKeepsAndForgets() {
        DailyLie x = Check.inTown("facts 1 0;person 0;person 1;street 0 1");
        Check.rule(x, "say 1");
        x.charter(0);
        x.seed(7);
        x.say(1, 0, 0, 1);
        x.say(1, 0, 0, 1);
        x.hour();
        x.midnight();
        x.hour();
        x.stated(0, 0, 1);
        x.tale(1, true);
        Check.tape(x, "facts 1");
        Check.due("a fault", x.town(), -2 - (1 + 8 * 7));
        Check.due("the tape behind a fault", x.count(14), 0);
        int[] stays = {1, 0, 2, 1, 1, 0, 1, 1, 0, 0, 1, 1, 5, 7, 0};
        for (int what = 0; what < stays.length; what++) {
            Check.due("behind a fault count(" + what + ")", x.count(what), stays[what]);
        }
        x.say(1, 0, 0, 1);
        x.say(1, 0, 0, 1);
        Check.due("a new town", Check.town(x, "facts 2 3;person 0"), 1);
        int[] anew = {2, 3, 1, 0, 1, 0, 0, 0, 0, 0, 0, 0, 0, 7, 0};
        for (int what = 0; what < anew.length; what++) {
            Check.due("in a new town count(" + what + ")", x.count(what), anew[what]);
        }
        Check.due("nothing to be undone", x.undo(), -1);
        Check.due("no breach", x.breach(0), -2);
        Check.due("nothing held", x.holds(0, 0, 0), 2);
    }

    private static void rules() {
        DailyLie x = new DailyLie();
        Check.due("rule 0", Check.rule(x, "lie said = 1 and heard = 2;say harm + 1 if heard = 2 and said = 1"), 0);
        Check.due("tape", x.count(14), 0);
        Check.due("rule 1", Check.rule(x, " say 1 "), 1);
        Check.due("rule 2", Check.rule(x, "say1if[so=1]"), 2);
        Check.due("a fault empties the tape", Check.rule(x, "say"), -2 - (1 + 24));
        Check.due("tape", x.count(14), 0);
        Check.due("rule 3", Check.rule(x, "lie teller + hearer + fact + said + so + holds + heard + lies = child"), 3);
        Check.due("rule 4", Check.rule(x, "lie trust*harm/second%hour-day>=00000"), 4);
        Check.due("rule 5", Check.rule(x, "lie not[not so<1 or so<=1]and so>1"), 5);
        Check.tape(x, "say 1");
        Check.due("a seventh", x.rule(), -1);
        Check.due("the tape stays", x.count(14), 5);
        Check.due("RULES", x.count(4), 6);
    }

    private static void ruleFaults() {
        Check.ruleFault("^", 0);
        Check.ruleFault("lie^", 0);
        Check.ruleFault("lie 1^", 0);
        Check.ruleFault("lie 1 ^;", 0);
        Check.ruleFault("say 1 if^", 0);
        Check.ruleFault("^says 1", 0);
        Check.ruleFault("^facts 1 0", 0);
        Check.ruleFault("say ^x", 0);
        Check.ruleFault("say ^if", 0);
        Check.ruleFault("say ^-1", 0);
        Check.ruleFault("say ^[1]", 0);
        Check.ruleFault("say ^not", 0);
        Check.ruleFault("say 1;^", 0);
        Check.ruleFault("say 1 ^2", 0);
        Check.ruleFault("say 1 ^so", 0);
        Check.ruleFault("say 1 ^= 1", 0);
        Check.ruleFault("say 1 ^or", 0);
        Check.ruleFault("say ^123456", 1);
        Check.ruleFault("say ^000000", 1);
        Check.ruleFault("say 5 %^", 0);
        Check.ruleFault("say 5 % ^%", 0);
        Check.ruleFault("say 1 if so = 1 ^if so = 1", 0);
        Check.ruleFault("lie so = 1^]", 0);
        Check.ruleFault("lie [so = 1^", 0);
        Check.ruleFault("lie [so = 1^;say 1", 0);
        Check.ruleFault("lie [so = 1] ^= 1", 0);
        Check.ruleFault("lie [so ^]", 0);
        Check.ruleFault("lie so < ^= 1", 0);
        Check.ruleFault("lie so =^= 1", 0);
        Check.ruleFault("lie so =^< 1", 0);
        Check.ruleFault("lie so <=^= 1", 0);
        Check.ruleFault("lie so = 1 ^= 1", 0);
        Check.ruleFault("lie so = 1 and^", 0);
        Check.ruleFault("lie so = 1 or ^or so = 1", 0);
        Check.ruleFault("lie not^", 0);
        Check.ruleFault("lie ^nott so = 1", 0);
        Check.ruleFault("lie so ^not = 1", 0);
        Check.ruleFault("lie so = 1 ^not so = 1", 0);
        Check.ruleFault("lie ^lie = 1", 0);
        Check.ruleFault("lie ^person = 1", 0);
        Check.ruleFault("^" + "[".repeat(400), 0);
        Check.ruleFault("lie " + "[".repeat(10) + "^" + "[".repeat(386), 2);
        Check.ruleFault("say 1^" + "]".repeat(395), 0);
        Check.due("a full tape", Check.rule(new DailyLie(), "say 1" + " ".repeat(395)), 0);
        DailyLie x = Check.inTown("facts 1 0;person 0;person 0;street 0 1");
        for (int i = 0; i < 12; i++) {
            Check.due("a long fault", Check.rule(x, "lie 1=1" + " or 1=1".repeat(18) + "]"), -2 - (1 + 8 * 133));
        }
        Check.due("a rule behind long faults", Check.rule(x, "lie 1=2" + " or 1=2".repeat(18) + " or said=0"), 0);
        x.charter(0);
        Check.due("it works", x.would(0, 1, 0, 0), 1);
        Check.due("it works", x.would(0, 1, 0, 1), 0);
    }

    private static void ruleLimits() {
        String ten = "[".repeat(10) + "so = 1" + "]".repeat(10);
        Check.due("10 brackets", Check.rule(new DailyLie(), "lie " + ten), 0);
        Check.ruleFault("lie " + "[".repeat(10) + "^[", 2);
        Check.due("10 nots", Check.rule(new DailyLie(), "lie " + "not ".repeat(10) + "so = 1"), 0);
        Check.ruleFault("lie " + "not ".repeat(10) + "^not ", 2);
        Check.ruleFault("lie " + "not[".repeat(5) + "^not so = 1", 2);
        Check.ruleFault("lie " + "not[".repeat(5) + "^[so = 1", 2);
        Check.due("depth ends with what opened it",
                Check.rule(new DailyLie(), "lie not not " + ten.substring(2, 24) + " and " + ten), 0);
        String values = "say 1" + "+1".repeat(59);
        Check.due("60 values", Check.rule(new DailyLie(), values), 0);
        Check.ruleFault(values + "+^1", 3);
        Check.ruleFault(values + "+ ^so", 3);
        Check.ruleFault(values + "+^sos", 0);
        Check.ruleFault(values + "+^123456", 1);
        Check.ruleFault(values + ";say ^1", 3);
        Check.ruleFault(values + " if ^1", 3);
        String facts = "lie 1=1" + " or 1=1".repeat(19);
        Check.due("20 facts", Check.rule(new DailyLie(), facts), 0);
        Check.ruleFault(facts + " and ^1=1", 3);
        Check.ruleFault("say 1" + "+1".repeat(58) + " if 1 ^= 1", 3);
        Check.ruleFault("say 1" + "+1".repeat(57) + " if 1 = ^1", 3);
        Check.due("57 and 3", Check.rule(new DailyLie(), "say 1" + "+1".repeat(56) + " if 1 = 1"), 0);
        String clauses = "say 1" + ";say 1".repeat(11);
        Check.due("12 clauses", Check.rule(new DailyLie(), clauses), 0);
        Check.ruleFault(clauses + ";^say", 4);
        Check.ruleFault(clauses + "; ^lie", 4);
        Check.ruleFault(clauses + ";^lies", 0);
        Check.ruleFault(clauses + ";^", 0);
    }

    /** Whether a test holds, said by person 0 to 1 of fact 0: 1 (so it is); trust 3, harm 7, one lie so far. */
    private static void holds(String test, int want) {
        DailyLie x = Check.inTown("facts 2 1;person 1;person 0;trust 1 0 3;street 0 1;harm 0 1 7;if 0 1 1 1;child 1");
        x.say(0, 1, 1, 1);
        x.midnight();
        x.say(0, 1, 1, 1);
        x.hour();
        x.hour();
        Check.due(test + ": rule", Check.rule(x, "lie " + test), 0);
        x.charter(0);
        Check.due(test, x.would(0, 1, 0, 1), want);
    }

    private static void arithmetic() {
        holds("teller = 0 and hearer = 1 and fact = 0 and said = 1 and so = 1", 1);
        holds("holds = 1 and heard = 2 and lies = 1 and child = 1", 1);
        holds("trust = 3 and harm = 7 and second = 0 and hour = 2 and day = 1", 1);
        holds("2 + 3 * 4 = 14", 1);
        holds("20 - 3 - 4 = 13", 1);
        holds("20 - 3 * 2 - 4 + 1 = 11", 1);
        holds("100 / 7 % 5 * 3 = 12", 1);
        holds("1 - 8 / 3 + 2 = 1", 1);
        holds("7 % 4 / 2 = 1", 1);
        holds("5 / so / 0 = 0 and 5 % 0 = 0", 1);
        // 99999^4 goes round five times and leaves 7762279691451841921, 70000^3 * 30000 leaves -8156744073709551616
        holds("99999 * 99999 * 99999 * 99999 / 99999 / 99999 / 99999 = 7762", 1);
        holds("99999 * 99999 * 99999 * 99999 % 10000 = 1921", 1);
        holds("70000 * 70000 * 70000 * 30000 < 0", 1);
        holds("70000 * 70000 * 70000 * 30000 % 10000 + 1616 = 0", 1);
        holds("70000 * 70000 * 70000 * 30000 / 10000 % 1000 + 955 = 0", 1);
        holds("0 - 7 < 0 and 0 - 7 = 1 - 8", 1);
        holds("1 < 1", 0);
        holds("1 <= 1", 1);
        holds("1 >= 1", 1);
        holds("1 > 1", 0);
        holds("1 = 2", 0);
        holds("1 < 2 and 2 > 1 and 1 <= 2 and 2 >= 1", 1);
        holds("2 <= 1 or 1 >= 2 or 2 < 1 or 1 > 2", 0);
        holds("1 = 1 or 1 = 1 and 1 = 2", 1);
        holds("[1 = 1 or 1 = 1] and 1 = 2", 0);
        holds("1 = 2 and 1 = 2 or 1 = 1", 1);
        holds("1 = 2 and [1 = 2 or 1 = 1]", 0);
        holds("not 1 = 2 and 1 = 2", 0);
        holds("not [1 = 2 and 1 = 2]", 1);
        holds("not not 1 = 1", 1);
        holds("not 1 = 1 or 1 = 1", 1);
        holds("1 = 2;lie 1 = 1", 1);
        holds("1 = 2;lie 1 = 2;say 9", 0);
    }

    private static void charter() {
        DailyLie x = Check.inTown("facts 1 1;person 1;person 0;street 0 1");
        Check.due("lie without a charter", x.would(0, 1, 0, 0), 1);
        Check.due("no lie without a charter", x.would(0, 1, 0, 1), 0);
        Check.rule(x, "lie said = 1");
        Check.rule(x, "say 1");
        Check.due("charter(2)", x.charter(2), -2);
        Check.due("charter(-2)", x.charter(-2), -2);
        Check.due("charter(6)", x.charter(6), -2);
        Check.due("charter(0)", x.charter(0), -1);
        Check.due("CHARTER", x.count(5), 0);
        Check.due("lie by the charter", x.would(0, 1, 0, 1), 1);
        Check.due("no lie by the charter", x.would(0, 1, 0, 0), 0);
        Check.due("charter(1)", x.charter(1), 0);
        Check.due("lie without a lie clause", x.would(0, 1, 0, 0), 1);
        Check.due("charter(NONE)", x.charter(-1), 1);
        Check.due("CHARTER", x.count(5), -1);
        Check.due("charter(NONE) again", x.charter(-1), -1);
    }
}
