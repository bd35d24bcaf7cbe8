import java.util.HashSet;
import java.util.Random;
import java.util.Set;

/** Draws texts of towns and of rules, some of them with a fault. */
final class TextMaker {
    private static final String[] WORDS = {"teller", "hearer", "fact", "said", "so", "holds", "heard", "lies", "child",
        "trust", "harm", "second", "hour", "day"};
    private static final String[] PIECES = {"facts", "person", "trust", "street", "if", "harm", "child", "correct",
        "lie", "say", "or", "and", "not", "[", "]", "<", "=", ">", "<=", ">=", "+", "-", "*", "/", "%", ";", " ",
        "0", "1", "7", "99", "100", "99999", "100000", "x", "A", "\u0000", "\u00ff", "so", "day"};
    private final Random random;
    /** Streets and how many ifs and harms the town that is drawn has, for most towns are to be without a fault. */
    private final Set<String> streets = new HashSet<>();
    private int ifs;
    private int harms;

    TextMaker(Random random) {
        this.random = random;
    }

    private int below(int n) {
        return random.nextInt(n);
    }

    private String gap() {
        int r = below(12);
        return r == 0 ? "  " : r == 1 ? " " : "";
    }

    String town() {
        streets.clear();
        ifs = 0;
        harms = 0;
        int facts = 1 + below(8);
        int people = below(12) == 0 ? below(9) : 3 + below(5);
        StringBuilder b = new StringBuilder();
        b.append("facts ").append(facts).append(' ').append(below(1 << facts));
        for (int i = 0; i < people; i++) {
            b.append(gap()).append(';').append(gap()).append("person ").append(below(1 << facts) & below(1 << facts));
        }
        if (below(3) == 0) {
            b.append(";correct");
        }
        int clauses = below(20) == 0 ? 45 : below(30);
        String before = b.toString();
        for (int i = 0; i < clauses && b.length() <= 400; i++) {
            before = b.toString();
            b.append(gap()).append(';').append(gap());
            addTownClause(b, facts, people, clauses == 45);
        }
        return b.length() > 400 ? before : b.toString();
    }

    private void addTownClause(StringBuilder b, int facts, int people, boolean shortOnes) {
        int one = people == 0 ? 0 : below(people);
        int other = people < 2 ? 0 : (one + 1 + below(people - 1)) % people;
        boolean newStreet = streets.size() < 10 && people > 1
                && streets.add(Math.min(one, other) + "-" + Math.max(one, other));
        boolean careless = below(150) == 0;
        int kind = shortOnes ? 9 : below(9);
        if (careless || kind < 3 && newStreet) {
            b.append("street ").append(one).append(' ').append(other);
        } else if (kind < 4 && people > 1) {
            b.append("trust ").append(one).append(' ').append(other).append(' ').append(below(10));
        } else if (kind < 7 && facts > 1 && (ifs < 10 || careless)) {
            int f = below(facts);
            b.append("if ").append(f).append(' ').append(below(2)).append(' ')
                    .append((f + 1 + below(facts - 1)) % facts).append(' ').append(below(2));
            ifs++;
        } else if (kind < 9 && (harms < 10 || careless) || people == 0) {
            b.append("harm ").append(below(facts)).append(' ').append(below(2)).append(' ').append(1 + below(99));
            harms++;
        } else {
            b.append("child ").append(one);
        }
    }

    String rule() {
        StringBuilder b = new StringBuilder();
        if (below(25) == 0) {
            return "say 1" + ";say day".repeat(10 + below(4));
        }
        int clauses = 1 + below(4);
        String before = "say 1";
        for (int i = 0; i < clauses && b.length() <= 400; i++) {
            before = i == 0 ? before : b.toString();
            b.append(i == 0 ? "" : ";").append(gap());
            if (below(3) == 0) {
                b.append("lie ");
                addTest(b, 0);
            } else {
                b.append("say ");
                addSum(b);
                if (below(3) > 0) {
                    b.append(" if ");
                    addTest(b, 0);
                }
            }
        }
        return b.length() > 400 ? before : b.toString();
    }

    private void addTest(StringBuilder b, int depth) {
        int parts = 1 + below(depth > 2 ? 1 : 2);
        for (int i = 0; i < parts; i++) {
            b.append(i == 0 ? "" : below(2) == 0 ? " or " : " and ");
            addFact(b, depth);
        }
    }

    private void addFact(StringBuilder b, int depth) {
        int r = below(8);
        if (depth < 11 && r == 0) {
            b.append("not ");
            addFact(b, depth + 1);
        } else if (depth < 11 && r == 1) {
            b.append("[");
            addTest(b, depth + 1);
            b.append("]");
        } else if (r == 2 && below(8) == 0) {
            for (int i = 0; i < 12 - depth - below(4); i++) {
                b.append(below(2) == 0 ? "not " : "not  not ");
            }
            b.append("so=1");
        } else {
            addSum(b);
            b.append(gap()).append(new String[] {"<", "<=", "=", ">=", ">"}[below(5)]).append(gap());
            addSum(b);
        }
    }

    private void addSum(StringBuilder b) {
        int values = 1 + below(below(12) == 0 ? 24 : 3);
        for (int i = 0; i < values; i++) {
            b.append(i == 0 ? "" : gap() + "+-*/%".charAt(below(5)) + gap());
            if (below(3) > 0) {
                b.append(WORDS[below(WORDS.length)]);
            } else {
                b.append(below(4) == 0 ? below(100000) : below(4));
            }
        }
    }

    /** The text with a few pieces put in, taken out or put in place of others. */
    String spoiled(String text) {
        String s = text;
        for (int i = 1 + below(2); i > 0; i--) {
            int at = below(s.length() + 1);
            int to = Math.min(s.length(), at + below(3));
            String piece = below(3) == 0 ? "" : PIECES[below(PIECES.length)];
            String changed = s.substring(0, at) + piece + s.substring(to);
            s = changed.length() > 400 ? s : changed;
        }
        return s;
    }
}
