import java.util.ArrayDeque;
import java.util.ArrayList;
import java.util.Deque;
import java.util.HashMap;
import java.util.List;
import java.util.Map;
import java.util.TreeMap;
import java.util.TreeSet;

/** The document once more, in the plainest way and without regard to size: DailyLie is held against it. */
final class Oracle {
    static final int NONE = -1;

    static final class Fault extends RuntimeException {
        private static final long serialVersionUID = 1;

        final int number;

        Fault(int place, int kind) {
            super(null, null, false, false);
            number = 1 + 8 * place + kind;
        }
    }

    interface Sum {
        long of(Saying s);
    }

    interface Test {
        boolean of(Saying s);
    }

    static final class Clause {
        boolean lie;
        Sum sum;
        Test test;
    }

    static final class Saying {
        World world;
        int teller;
        int hearer;
        int fact;
        int said;
        boolean second;
    }

    static final class Belief {
        final int value;
        final int strength;

        Belief(int value, int strength) {
            this.value = value;
            this.strength = strength;
        }
    }

    /** What is told of a town; never changed once read. */
    static final class Place {
        int facts;
        boolean[] so;
        final List<boolean[]> people = new ArrayList<>();
        final Map<String, Integer> trust = new HashMap<>();
        final List<int[]> streets = new ArrayList<>();
        final List<int[]> ifs = new ArrayList<>();
        final List<int[]> harms = new ArrayList<>();
        final TreeSet<Integer> children = new TreeSet<>();
        boolean correct;

        int trustOf(int one, int other) {
            return trust.getOrDefault(one + ">" + other, 5);
        }

        boolean street(int one, int other) {
            for (int[] s : streets) {
                if (s[0] == one && s[1] == other || s[0] == other && s[1] == one) {
                    return true;
                }
            }
            return false;
        }

        int soOf(int fact) {
            return so[fact] ? 1 : 0;
        }
    }

    static final class World {
        Place place;
        Map<String, Belief> holds = new HashMap<>();
        Map<Integer, Integer> lies = new HashMap<>();
        int day;
        int hour;
        int breachHour = -2;
        int breachWho = -2;

        World copy() {
            World w = new World();
            w.place = place;
            w.holds = new HashMap<>(holds);
            w.lies = new HashMap<>(lies);
            w.day = day;
            w.hour = hour;
            w.breachHour = breachHour;
            w.breachWho = breachWho;
            return w;
        }

        int held(int person, int fact) {
            Belief b = holds.get(person + "/" + fact);
            return b == null ? 2 : b.value;
        }

        int strength(int person, int fact) {
            Belief b = holds.get(person + "/" + fact);
            return b == null ? 0 : b.strength;
        }

        Map<Integer, Integer> beliefs(int person) {
            Map<Integer, Integer> m = new TreeMap<>();
            for (int f = 0; f < place.facts; f++) {
                if (held(person, f) != 2) {
                    m.put(f, held(person, f));
                }
            }
            boolean more = true;
            while (more) {
                more = false;
                for (int[] i : place.ifs) {
                    if (m.containsKey(i[0]) && m.get(i[0]) == i[1] && !m.containsKey(i[2])) {
                        m.put(i[2], i[3]);
                        more = true;
                        break;
                    }
                }
            }
            return m;
        }

        int harm(int person) {
            int sum = 0;
            Map<Integer, Integer> m = beliefs(person);
            for (int[] h : place.harms) {
                if (m.containsKey(h[0]) && m.get(h[0]) == h[1]) {
                    sum += h[2];
                }
            }
            return sum;
        }

        int contradictions(int person) {
            int sum = 0;
            Map<Integer, Integer> m = beliefs(person);
            for (int[] i : place.ifs) {
                if (m.containsKey(i[0]) && m.get(i[0]) == i[1] && m.containsKey(i[2]) && m.get(i[2]) != i[3]) {
                    sum++;
                }
            }
            return sum;
        }

        void tell(int teller, int hearer, int fact, int said) {
            int trust = place.trustOf(hearer, teller);
            if (held(hearer, fact) == 2 || trust >= strength(hearer, fact)) {
                holds.put(hearer + "/" + fact, new Belief(said, trust));
            }
        }

        void midnight() {
            day++;
            hour = 0;
            lies.clear();
            breachHour = -2;
            breachWho = -2;
            if (place.correct) {
                for (int p = 0; p < place.people.size(); p++) {
                    for (int f = 0; f < place.facts; f++) {
                        if (held(p, f) != place.soOf(f)) {
                            holds.remove(p + "/" + f);
                        }
                    }
                }
            }
        }

        int harmOfAll() {
            int sum = 0;
            for (int p = 0; p < place.people.size(); p++) {
                sum += harm(p);
            }
            return sum;
        }
    }

    static final class Kept {
        World world;
        int charter;
        int x;
        List<int[]> stated;
        List<int[]> tales;
    }

    /** Reads a text byte by byte. */
    static class Scan {
        final int[] text;
        int at;
        int depth;
        int parts;

        Scan(int[] text) {
            this.text = text;
        }

        int peek() {
            while (at < text.length && text[at] == 32) {
                at++;
            }
            return at < text.length ? text[at] : -1;
        }

        String word() {
            peek();
            StringBuilder b = new StringBuilder();
            for (int i = at; i < text.length && text[i] >= 97 && text[i] <= 122; i++) {
                b.append((char) text[i]);
            }
            return b.toString();
        }

        String digits() {
            peek();
            StringBuilder b = new StringBuilder();
            for (int i = at; i < text.length && text[i] >= 48 && text[i] <= 57; i++) {
                b.append((char) text[i]);
            }
            return b.toString();
        }

        int number(int low, int high, int... not) {
            String d = digits();
            if (d.isEmpty()) {
                throw new Fault(at, 0);
            }
            if (d.length() > 5) {
                throw new Fault(at, 1);
            }
            int n = Integer.parseInt(d);
            if (n < low || n > high) {
                throw new Fault(at, 1);
            }
            for (int other : not) {
                if (n == other) {
                    throw new Fault(at, 1);
                }
            }
            at += d.length();
            return n;
        }

        Place town() {
            Place t = new Place();
            int clauses = 0;
            do {
                if (clauses > 0) {
                    at++;
                }
                townClause(t, clauses);
                clauses++;
            } while (peek() == ';');
            if (peek() != -1) {
                throw new Fault(at, 0);
            }
            return t;
        }

        void townClause(Place t, int clauses) {
            String w = word();
            int start = at;
            if (!List.of("facts", "person", "trust", "street", "if", "harm", "child", "correct").contains(w)) {
                throw new Fault(start, 0);
            }
            boolean many = clauses >= 40 || w.equals("facts") != (clauses == 0)
                    || w.equals("person") && t.people.size() == 7
                    || w.equals("street") && t.streets.size() == 10
                    || w.equals("if") && t.ifs.size() == 10
                    || w.equals("harm") && t.harms.size() == 10
                    || w.equals("correct") && t.correct;
            if (many) {
                throw new Fault(start, 4);
            }
            at += w.length();
            int last = t.people.size() - 1;
            if (w.equals("facts")) {
                t.facts = number(1, 8);
                t.so = bits(number(0, (1 << t.facts) - 1), t.facts);
            } else if (w.equals("person")) {
                t.people.add(bits(number(0, (1 << t.facts) - 1), t.facts));
            } else if (w.equals("trust")) {
                int one = number(0, last);
                int other = number(0, last, one);
                t.trust.put(one + ">" + other, number(0, 9));
            } else if (w.equals("street")) {
                int one = number(0, last);
                List<Integer> not = new ArrayList<>(List.of(one));
                for (int p = 0; p <= last; p++) {
                    if (t.street(one, p)) {
                        not.add(p);
                    }
                }
                t.streets.add(new int[] {one, number(0, last, not.stream().mapToInt(i -> i).toArray())});
            } else if (w.equals("if")) {
                int fact = number(0, t.facts - 1);
                int value = number(0, 1);
                int other = number(0, t.facts - 1, fact);
                t.ifs.add(new int[] {fact, value, other, number(0, 1)});
            } else if (w.equals("harm")) {
                int fact = number(0, t.facts - 1);
                int value = number(0, 1);
                t.harms.add(new int[] {fact, value, number(1, 99)});
            } else if (w.equals("child")) {
                t.children.add(number(0, last));
            } else {
                t.correct = true;
            }
        }

        static boolean[] bits(int set, int n) {
            boolean[] b = new boolean[n];
            for (int i = 0; i < n; i++) {
                b[i] = (set & (1 << i)) != 0;
            }
            return b;
        }

        List<Clause> rule() {
            List<Clause> all = new ArrayList<>();
            while (true) {
                String w = word();
                if (!w.equals("lie") && !w.equals("say")) {
                    throw new Fault(at, 0);
                }
                if (all.size() == 12) {
                    throw new Fault(at, 4);
                }
                at += 3;
                Clause c = new Clause();
                c.lie = w.equals("lie");
                if (c.lie) {
                    c.test = test();
                } else {
                    c.sum = sum();
                    if (word().equals("if")) {
                        at += 2;
                        c.test = test();
                    }
                }
                all.add(c);
                int b = peek();
                if (b == -1) {
                    return all;
                }
                if (b != ';') {
                    throw new Fault(at, 0);
                }
                at++;
            }
        }

        Test test() {
            Test left = part();
            while (word().equals("or")) {
                at += 2;
                Test a = left;
                Test b = part();
                left = s -> a.of(s) || b.of(s);
            }
            return left;
        }

        Test part() {
            Test left = fact();
            while (word().equals("and")) {
                at += 3;
                Test a = left;
                Test b = fact();
                left = s -> a.of(s) && b.of(s);
            }
            return left;
        }

        Test fact() {
            boolean not = word().equals("not");
            if (not || peek() == '[') {
                if (depth == 10) {
                    throw new Fault(at, 2);
                }
                depth++;
                at += not ? 3 : 1;
                Test inner = not ? fact() : test();
                if (!not) {
                    if (peek() != ']') {
                        throw new Fault(at, 0);
                    }
                    at++;
                }
                depth--;
                return not ? s -> !inner.of(s) : inner;
            }
            Sum left = sum();
            String sign = sign();
            Sum right = sum();
            return s -> {
                long a = left.of(s);
                long b = right.of(s);
                return sign.contains("=") && a == b || sign.contains("<") && a < b || sign.contains(">") && a > b;
            };
        }

        String sign() {
            int b = peek();
            if (b != '<' && b != '=' && b != '>') {
                throw new Fault(at, 0);
            }
            if (++parts > 60) {
                throw new Fault(at, 3);
            }
            at++;
            if (b != '=' && at < text.length && text[at] == '=') {
                at++;
                return (char) b + "=";
            }
            return "" + (char) b;
        }

        Sum sum() {
            Sum left = term();
            while (peek() == '+' || peek() == '-') {
                boolean plus = peek() == '+';
                at++;
                Sum a = left;
                Sum b = term();
                left = s -> plus ? a.of(s) + b.of(s) : a.of(s) - b.of(s);
            }
            return left;
        }

        Sum term() {
            Sum left = value();
            while (peek() == '*' || peek() == '/' || peek() == '%') {
                int op = peek();
                at++;
                Sum a = left;
                Sum b = value();
                left = s -> {
                    long x = a.of(s);
                    long y = b.of(s);
                    if (op == '*') {
                        return x * y;
                    }
                    return y == 0 ? 0 : op == '/' ? x / y : x % y;
                };
            }
            return left;
        }

        Sum value() {
            String d = digits();
            String w = word();
            if (d.length() > 5) {
                throw new Fault(at, 1);
            }
            boolean known = List.of("teller", "hearer", "fact", "said", "so", "holds", "heard", "lies", "child",
                    "trust", "harm", "second", "hour", "day").contains(w);
            if (d.isEmpty() && !known) {
                throw new Fault(at, 0);
            }
            if (++parts > 60) {
                throw new Fault(at, 3);
            }
            at += d.length() + w.length();
            if (!d.isEmpty()) {
                long n = Long.parseLong(d);
                return s -> n;
            }
            return s -> wordValue(w, s);
        }
    }

    static long wordValue(String w, Saying s) {
        Place t = s.world.place;
        switch (w) {
            case "teller": return s.teller;
            case "hearer": return s.hearer;
            case "fact": return s.fact;
            case "said": return s.said;
            case "so": return t.soOf(s.fact);
            case "holds": return s.world.beliefs(s.teller).getOrDefault(s.fact, 2);
            case "heard": return s.world.beliefs(s.hearer).getOrDefault(s.fact, 2);
            case "lies": return s.world.lies.getOrDefault(s.hearer, 0);
            case "child": return t.children.contains(s.hearer) ? 1 : 0;
            case "trust": return t.trustOf(s.hearer, s.teller);
            case "harm":
                int sum = 0;
                for (int[] h : t.harms) {
                    if (h[0] == s.fact && h[1] == s.said) {
                        sum += h[2];
                    }
                }
                return sum;
            case "second": return s.second ? 1 : 0;
            case "hour": return s.world.hour;
            case "day": return s.world.day;
            default: throw new IllegalStateException(w);
        }
    }

    private final List<Integer> tape = new ArrayList<>();
    private final List<List<Clause>> rules = new ArrayList<>();
    private World world;
    private int charter = NONE;
    private int x;
    private List<int[]> stated = new ArrayList<>();
    private List<int[]> tales = new ArrayList<>();
    private Deque<World> acts = new ArrayDeque<>();
    private final Map<Integer, Kept> images = new HashMap<>();

    int feed(int... five) {
        if (tape.size() + 20 > 400) {
            return NONE;
        }
        for (int n : five) {
            tape.add(n >>> 24);
            tape.add(n >>> 16 & 255);
            tape.add(n >>> 8 & 255);
            tape.add(n & 255);
        }
        return tape.size();
    }

    int end(int n) {
        if (n < 0 || n > tape.size()) {
            return NONE;
        }
        tape.subList(n, tape.size()).clear();
        return n;
    }

    private int[] takeTape() {
        int[] text = tape.stream().mapToInt(i -> i).toArray();
        tape.clear();
        return text;
    }

    int town() {
        Place p;
        try {
            p = new Scan(takeTape()).town();
        } catch (Fault f) {
            return -2 - f.number;
        }
        world = new World();
        world.place = p;
        for (int i = 0; i < p.people.size(); i++) {
            for (int f = 0; f < p.facts; f++) {
                if (p.people.get(i)[f]) {
                    world.holds.put(i + "/" + f, new Belief(p.soOf(f), 10));
                }
            }
        }
        stated.clear();
        tales.clear();
        acts.clear();
        return p.people.size();
    }

    int rule() {
        if (rules.size() == 6) {
            return NONE;
        }
        try {
            rules.add(new Scan(takeTape()).rule());
        } catch (Fault f) {
            return -2 - f.number;
        }
        return rules.size() - 1;
    }

    int charter(int rule) {
        if (rule < -1 || rule >= rules.size()) {
            return -2;
        }
        int was = charter;
        charter = rule;
        return was;
    }

    private int people() {
        return world == null ? 0 : world.place.people.size();
    }

    private boolean isPerson(int p) {
        return p >= 0 && p < people();
    }

    private boolean isFact(int f) {
        return world != null && f >= 0 && f < world.place.facts;
    }

    private boolean isTwo(int a, int b) {
        return isPerson(a) && isPerson(b) && a != b;
    }

    private boolean isStreet(int a, int b) {
        return isTwo(a, b) && world.place.street(a, b);
    }

    int holds(int person, int fact, int what) {
        if (!isPerson(person) || !isFact(fact) || what < 0 || what > 2) {
            return NONE;
        }
        return what == 0 ? world.held(person, fact)
                : what == 1 ? world.strength(person, fact) : world.beliefs(person).getOrDefault(fact, 2);
    }

    int person(int person, int what) {
        if (!isPerson(person) || what < 0 || what > 4) {
            return NONE;
        }
        int set = 0;
        for (int p = 0; p < people(); p++) {
            set += isStreet(person, p) ? 1 << p : 0;
        }
        return new int[] {world.lies.getOrDefault(person, 0), world.harm(person), world.contradictions(person), set,
            world.place.children.contains(person) ? 1 : 0}[what];
    }

    int trust(int one, int other) {
        return isTwo(one, other) ? world.place.trustOf(one, other) : NONE;
    }

    private Saying saying(World w, int teller, int hearer, int fact, int said, boolean second) {
        Saying s = new Saying();
        s.world = w;
        s.teller = teller;
        s.hearer = hearer;
        s.fact = fact;
        s.said = said;
        s.second = second;
        return s;
    }

    private boolean isLie(Saying s) {
        if (charter != NONE) {
            boolean some = false;
            for (Clause c : rules.get(charter)) {
                if (c.lie) {
                    some = true;
                    if (c.test.of(s)) {
                        return true;
                    }
                }
            }
            if (some) {
                return false;
            }
        }
        return s.said != s.world.place.soOf(s.fact);
    }

    private int speak(Saying s) {
        boolean lie = isLie(s);
        if (lie) {
            int n = s.world.lies.merge(s.hearer, 1, Integer::sum);
            if (n == 2 && s.world.breachWho == -2) {
                s.world.breachHour = s.world.hour;
                s.world.breachWho = s.hearer;
            }
        }
        s.world.tell(s.teller, s.hearer, s.fact, s.said);
        return lie ? 1 : 0;
    }

    private boolean canSay(int teller, int hearer, int fact, int said) {
        return isStreet(teller, hearer) && isFact(fact) && (said == 0 || said == 1);
    }

    private void act() {
        acts.addLast(world.copy());
        if (acts.size() > 20) {
            acts.removeFirst();
        }
    }

    int say(int teller, int hearer, int fact, int said) {
        if (!canSay(teller, hearer, fact, said)) {
            return NONE;
        }
        act();
        return speak(saying(world, teller, hearer, fact, said, false));
    }

    int would(int teller, int hearer, int fact, int said) {
        if (!canSay(teller, hearer, fact, said)) {
            return NONE;
        }
        return isLie(saying(world, teller, hearer, fact, said, false)) ? 1 : 0;
    }

    int meet(int one, int other) {
        if (!isStreet(one, other)) {
            return NONE;
        }
        act();
        int lies = 0;
        int[] order = {Math.min(one, other), Math.max(one, other), Math.min(one, other)};
        for (int i = 0; i < 2; i++) {
            for (int f = 0; f < world.place.facts; f++) {
                int v = world.held(order[i], f);
                if (v != 2 && world.held(order[i + 1], f) != v) {
                    lies += speak(saying(world, order[i], order[i + 1], f, v, true));
                }
            }
        }
        return lies;
    }

    int hour() {
        if (world == null || world.hour == 23) {
            return NONE;
        }
        act();
        return ++world.hour;
    }

    int midnight() {
        if (world == null || world.day == 9999) {
            return NONE;
        }
        act();
        world.midnight();
        return world.day;
    }

    int undo() {
        if (acts.isEmpty()) {
            return NONE;
        }
        world = acts.removeLast();
        return acts.size();
    }

    int run(int rule, int n) {
        if (people() == 0 || rule < 0 || rule >= rules.size() || n < 1 || n > 96) {
            return NONE;
        }
        acts.clear();
        int lies = 0;
        for (int i = 0; i < n; i++) {
            int teller = world.hour % people();
            Saying best = null;
            long most = 0;
            for (int h = 0; h < people(); h++) {
                for (int f = 0; f < world.place.facts && isStreet(teller, h); f++) {
                    for (int v = 0; v < 2; v++) {
                        Saying s = saying(world, teller, h, f, v, false);
                        long score = 0;
                        for (Clause c : rules.get(rule)) {
                            if (!c.lie && (c.test == null || c.test.of(s))) {
                                score = c.sum.of(s);
                                break;
                            }
                        }
                        if (score > most) {
                            most = score;
                            best = s;
                        }
                    }
                }
            }
            lies += best == null ? 0 : speak(best);
            if (world.hour == 23) {
                world.midnight();
            } else {
                world.hour++;
            }
        }
        return lies;
    }

    int breach(int what) {
        return world == null || what < 0 || what > 1 ? NONE : what == 0 ? world.breachHour : world.breachWho;
    }

    int tellers(int what) {
        if (world == null || what < 0 || what > 1) {
            return NONE;
        }
        for (int size = 0; size <= people(); size++) {
            for (int set = 0; set < 1 << people(); set++) {
                boolean all = Integer.bitCount(set) == size;
                for (int p = 0; p < people() && all; p++) {
                    boolean some = false;
                    for (int t = 0; t < people(); t++) {
                        some |= (set >> t & 1) == 1 && isStreet(p, t);
                    }
                    all = some;
                }
                if (all) {
                    return what == 0 ? size : set;
                }
            }
        }
        return -2;
    }

    private int[] least(int teller, int hearer) {
        int[] best = null;
        for (int f = 0; f < world.place.facts; f++) {
            World w = world.copy();
            w.tell(teller, hearer, f, 1 - w.place.soOf(f));
            int harm = w.harm(hearer);
            if (best == null || harm < best[1]) {
                best = new int[] {f, harm};
            }
        }
        return best;
    }

    int leastLie(int teller, int hearer, int what) {
        return !isStreet(teller, hearer) || what < 0 || what > 1 ? NONE : least(teller, hearer)[what];
    }

    int evening() {
        if (world == null) {
            return NONE;
        }
        int sum = 0;
        for (int p = 0; p < people(); p++) {
            TreeSet<Integer> harms = new TreeSet<>();
            for (int t = 0; t < people(); t++) {
                if (isStreet(t, p)) {
                    harms.add(least(t, p)[1]);
                }
            }
            boolean lied = world.lies.getOrDefault(p, 0) > 0;
            sum += lied || harms.isEmpty() ? world.harm(p) : harms.first();
        }
        return sum;
    }

    private int hours(int from, int to, int without) {
        int[] dist = new int[people()];
        java.util.Arrays.fill(dist, -2);
        dist[from] = 0;
        Deque<Integer> queue = new ArrayDeque<>(List.of(from));
        while (!queue.isEmpty()) {
            int p = queue.removeFirst();
            for (int i = 0; i < world.place.streets.size(); i++) {
                int[] s = world.place.streets.get(i);
                int other = s[0] == p ? s[1] : s[1] == p ? s[0] : -1;
                if (other >= 0 && (without >> i & 1) == 0 && dist[other] == -2) {
                    dist[other] = dist[p] + 1;
                    queue.addLast(other);
                }
            }
        }
        return dist[to];
    }

    int walls(int one, int other, int what) {
        if (!isTwo(one, other) || what < 0 || what > 1) {
            return NONE;
        }
        for (int size = 0; true; size++) {
            for (int set = 0; set < 1 << world.place.streets.size(); set++) {
                if (Integer.bitCount(set) == size && hours(one, other, set) == -2) {
                    return what == 0 ? size : set;
                }
            }
        }
    }

    int leak(int from, int to) {
        return isPerson(from) && isPerson(to) ? hours(from, to, 0) : NONE;
    }

    int stated(int person, int fact, int said) {
        if (person == NONE) {
            stated.clear();
            return 0;
        }
        if (!isPerson(person) || !isFact(fact) || said < 0 || said > 1 || stated.size() == 12) {
            return -2;
        }
        stated.add(new int[] {person, fact, said});
        return stated.size();
    }

    private List<int[]> ways() {
        List<int[]> all = new ArrayList<>();
        for (int way = 0; way < 1 << world.place.facts; way++) {
            int liars = 0;
            int honest = 0;
            boolean ok = true;
            for (int p = 0; p < people(); p++) {
                int right = 0;
                int wrong = 0;
                for (int[] s : stated) {
                    if (s[0] == p) {
                        if ((way >> s[1] & 1) == s[2]) {
                            right++;
                        } else {
                            wrong++;
                        }
                    }
                }
                ok &= right == 0 || wrong == 0;
                honest |= right > 0 ? 1 << p : 0;
                liars |= wrong > 0 ? 1 << p : 0;
            }
            if (ok) {
                all.add(new int[] {way, ~way & (1 << world.place.facts) - 1, liars, honest});
            }
        }
        return all;
    }

    int truths(int what) {
        if (world == null || what < 0 || what > 4) {
            return NONE;
        }
        List<int[]> ways = ways();
        if (what == 0 || ways.isEmpty()) {
            return ways.size();
        }
        int common = -1;
        for (int[] w : ways) {
            common &= w[what - 1];
        }
        return common;
    }

    int ask(int what) {
        if (world == null || what < 0 || what > 1) {
            return NONE;
        }
        List<int[]> ways = ways();
        int[] best = {-2, -2};
        for (int f = 0; f < world.place.facts && !ways.isEmpty(); f++) {
            int ones = 0;
            for (int[] w : ways) {
                ones += w[0] >> f & 1;
            }
            int most = Math.max(ones, ways.size() - ones);
            if (best[0] == -2 || most < best[1]) {
                best = new int[] {f, most};
            }
        }
        return best[what];
    }

    int tale(int place, boolean isLie) {
        if (place == NONE) {
            tales.clear();
            return 0;
        }
        if (place < 0 || place > 9 || tales.size() == 10) {
            return -2;
        }
        tales.add(new int[] {place, isLie ? 1 : 0});
        return tales.size();
    }

    int schedules(int n, int k, int what) {
        if (n < 1 || n > 10 || k < 0 || k > n || what < 0 || what > 1) {
            return NONE;
        }
        int ways = 0;
        int all = -1;
        for (int set = 0; set < 1 << n; set++) {
            boolean fits = Integer.bitCount(set) == k;
            for (int[] t : tales) {
                fits &= t[0] < n && (set >> t[0] & 1) == t[1];
            }
            if (fits) {
                ways++;
                all &= set;
            }
        }
        return what == 0 || ways == 0 ? ways : all;
    }

    int seed(int to) {
        if (to < 0) {
            return NONE;
        }
        int was = x;
        x = to;
        return was;
    }

    int years(int m, int n, int what) {
        if (world == null || m < 1 || m > 10 || n < 1 || n > 20 || what < 0 || what > 2) {
            return NONE;
        }
        long[] draws = {x};
        int[] sums = new int[3];
        for (int i = 0; i < m; i++) {
            World w = world.copy();
            for (int d = 0; d < n; d++) {
                w.midnight();
                for (w.hour = 0; w.hour < 12 && !w.place.streets.isEmpty(); w.hour++) {
                    int[] street = w.place.streets.get(draw(draws, w.place.streets.size()));
                    int low = Math.min(street[0], street[1]);
                    int high = Math.max(street[0], street[1]);
                    boolean lowTells = draw(draws, 2) == 0;
                    int fact = draw(draws, w.place.facts);
                    int said = draw(draws, 2);
                    sums[0] += speak(saying(w, lowTells ? low : high, lowTells ? high : low, fact, said, false));
                }
                for (int p = 0; p < people(); p++) {
                    sums[1] += w.lies.getOrDefault(p, 0) == 1 ? 1 : 0;
                }
            }
            sums[2] += w.harmOfAll();
        }
        return sums[what];
    }

    private static int draw(long[] draws, int of) {
        draws[0] = (draws[0] * 1103515245L + 12345L) % (1L << 31);
        return (int) (draws[0] / 65536 % of);
    }

    int count(int what) {
        int so = 0;
        int lies = 0;
        for (int f = 0; world != null && f < world.place.facts; f++) {
            so += world.place.so[f] ? 1 << f : 0;
        }
        for (int p = 0; p < people(); p++) {
            lies += world.lies.getOrDefault(p, 0);
        }
        int[] all = {world == null ? 0 : world.place.facts, so, people(),
            world == null ? 0 : world.place.streets.size(), rules.size(), charter, world == null ? 0 : world.day,
            world == null ? 0 : world.hour, lies, world == null ? 0 : world.harmOfAll(), stated.size(), tales.size(),
            acts.size(), x, tape.size()};
        return what < 0 || what >= all.length ? NONE : all[what];
    }

    int image(int k) {
        if (k < 0 || k > 3) {
            return NONE;
        }
        Kept kept = new Kept();
        kept.world = world == null ? null : world.copy();
        kept.charter = charter;
        kept.x = x;
        kept.stated = new ArrayList<>(stated);
        kept.tales = new ArrayList<>(tales);
        images.put(k, kept);
        return world == null ? 0 : world.day;
    }

    int back(int k) {
        Kept kept = images.get(k);
        if (kept == null) {
            return NONE;
        }
        world = kept.world == null ? null : kept.world.copy();
        charter = kept.charter;
        x = kept.x;
        stated = new ArrayList<>(kept.stated);
        tales = new ArrayList<>(kept.tales);
        acts.clear();
        return world == null ? 0 : world.day;
    }
}
