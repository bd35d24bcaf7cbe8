/** What tests of the promises share: objects fed with texts, and answers held against those that are due. */
final class Check {
    private static int wrong;
    private static int checked;
    private static String about = "";

    private Check() {
    }

    /** The checks that follow hold the program to these words of the document's present section. */
    static void quote(String words) {
        about = Doc.quote(words) + ": ";
    }

    static void due(String call, int got, int want) {
        checked++;
        if (got != want) {
            wrong++;
            System.out.println(about + call + " answered " + got + ", due is " + want);
        }
    }

    /** Puts a text on the tape, behind what is there. */
    static void tape(DailyLie x, String text) {
        int before = x.count(14);
        for (int at = 0; at < text.length(); at += 20) {
            int[] n = new int[5];
            for (int i = 0; i < 20; i++) {
                n[i / 4] = n[i / 4] << 8 | (at + i < text.length() ? text.charAt(at + i) : 0);
            }
            x.feed(n[0], n[1], n[2], n[3], n[4]);
        }
        due("end behind " + text, x.end(before + text.length()), before + text.length());
    }

    static int town(DailyLie x, String text) {
        tape(x, text);
        return x.town();
    }

    static int rule(DailyLie x, String text) {
        tape(x, text);
        return x.rule();
    }

    static DailyLie inTown(String text) {
        DailyLie x = new DailyLie();
        due("town " + text, town(x, text) < -1 ? 0 : 1, 1);
        return x;
    }

    /** In a town by a charter, which is rule 0. */
    static DailyLie byCharter(String town, String rule) {
        DailyLie x = inTown(town);
        due("rule " + rule, rule(x, rule), 0);
        due("charter(0)", x.charter(0), -1);
        return x;
    }

    /** The fault of a town's text is of a kind at the place of the sign ^, which is not in the text. */
    static void townFault(String marked, int kind) {
        DailyLie x = new DailyLie();
        due("town " + marked, town(x, unmarked(marked)), answer(marked, kind));
        due("the town behind a fault", x.count(0), 0);
    }

    static void ruleFault(String marked, int kind) {
        DailyLie x = new DailyLie();
        due("rule " + marked, rule(x, unmarked(marked)), answer(marked, kind));
        due("the rules behind a fault", x.count(4), 0);
    }

    /** A text that has no fault. */
    static void townFine(String text, int people) {
        due("town " + text, town(new DailyLie(), text), people);
    }

    static void ruleFine(String text) {
        due("rule " + text, rule(new DailyLie(), text), 0);
    }

    private static String unmarked(String marked) {
        return marked.replace("^", "");
    }

    private static int answer(String marked, int kind) {
        return -2 - (1 + 8 * marked.indexOf('^') + kind);
    }

    static void held(DailyLie x, int person, int fact, int value, int strength, int believed) {
        String call = "holds(" + person + ", " + fact + ", ";
        due(call + "0)", x.holds(person, fact, 0), value);
        due(call + "1)", x.holds(person, fact, 1), strength);
        due(call + "2)", x.holds(person, fact, 2), believed);
    }

    static void finish(String name) {
        System.out.println(name + ": " + checked + " answers, " + wrong + " not as due");
        System.exit(wrong == 0 && checked > 0 ? 0 : 1);
    }

    /** As finish, but each word of the document must have been quoted as well. */
    static void finishQuoting(String name) {
        about = "";
        for (String fault : Doc.faults()) {
            wrong++;
            System.out.println(fault);
        }
        finish(name);
    }
}
