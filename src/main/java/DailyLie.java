import java.util.Arrays;

/** A town in which people are lied to, evenly or not: DOC.md says what each call promises. */
public final class DailyLie {
    public static final int NONE = -1;

    /** The answer where something can't be and NONE already says something else. */
    private static final int CANNOT = -2;

    private static final int TAPE_LIMIT = 400;
    private static final int FEED_BYTES = 20;
    private static final int FACT_LIMIT = 8;
    private static final int PEOPLE_LIMIT = 7;
    private static final int STREET_LIMIT = 10;
    private static final int IF_LIMIT = 10;
    private static final int HARM_LIMIT = 10;
    private static final int TOWN_CLAUSES = 40;
    private static final int RULE_LIMIT = 6;
    private static final int RULE_CLAUSES = 12;
    private static final int DEEPEST = 10;
    private static final int PARTS_LIMIT = 60;
    private static final int STACK_LIMIT = 64;
    private static final int ACT_LIMIT = 20;
    private static final int STATED_LIMIT = 12;
    private static final int TALE_LIMIT = 10;
    private static final int PLACE_LIMIT = 10;
    private static final int IMAGE_LIMIT = 4;
    private static final int DAY_HOURS = 24;
    private static final int LAST_DAY = 9999;
    private static final int RUN_HOURS = 96;
    private static final int YEARS_LIMIT = 10;
    private static final int YEAR_DAYS = 20;
    private static final int DRAWN_HOURS = 12;

    /** What is held or believed of a fact is 0, 1 or this. */
    private static final int NOTHING = 2;
    private static final int KNOWN_STRENGTH = 10;
    private static final int USUAL_TRUST = 5;
    private static final int MOST_TRUST = 9;
    private static final int MOST_HARM = 99;

    private static final int BAD_PLACE = 0;
    private static final int BAD_NUMBER = 1;
    private static final int TOO_DEEP = 2;
    private static final int ONE_PART_TOO_MANY = 3;
    private static final int ONE_CLAUSE_TOO_MANY = 4;

    /** The words of both languages, each with a blank behind it; a word's number is its place among them. */
    private static final String WORDS = "facts person trust street if harm child correct lie say or and not teller hearer fact said so holds heard lies second hour day ";
    private static final int W_FACTS = 0;
    private static final int W_PERSON = 1;
    private static final int W_TRUST = 2;
    private static final int W_STREET = 3;
    private static final int W_IF = 4;
    private static final int W_HARM = 5;
    private static final int W_CHILD = 6;
    private static final int W_CORRECT = 7;
    private static final int W_LIE = 8;
    private static final int W_SAY = 9;
    private static final int W_OR = 10;
    private static final int W_AND = 11;
    private static final int W_NOT = 12;
    private static final int W_TELLER = 13;
    private static final int W_HEARER = 14;
    private static final int W_FACT = 15;
    private static final int W_SAID = 16;
    private static final int W_SO = 17;
    private static final int W_HOLDS = 18;
    private static final int W_HEARD = 19;
    private static final int W_LIES = 20;
    private static final int W_SECOND = 21;
    private static final int W_HOUR = 22;
    private static final int W_DAY = 23;

    /** Kinds of tokens. */
    private static final int T_END = 0;
    private static final int T_WORD = 1;
    private static final int T_NUMBER = 2;
    private static final int T_LONG_NUMBER = 3;
    private static final int T_SIGN = 4;
    private static final int T_BYTE = 5;

    /** Steps of a rule's worked-out form, operands ahead of what is done with them. */
    private static final int DO_NUMBER = 0;
    private static final int DO_WORD = 1;
    private static final int DO_NOT = 2;
    private static final int DO_AND = 3;
    private static final int DO_OR = 4;
    private static final int DO_PLUS = 5;
    private static final int DO_MINUS = 6;
    private static final int DO_TIMES = 7;
    private static final int DO_DIVIDE = 8;
    private static final int DO_REST = 9;
    /** Behind it, in this order: less or equal, equal, greater or equal, greater. */
    private static final int DO_LESS = 10;
    private static final int DO_LESS_EQUAL = 11;
    private static final int DO_EQUAL = 12;
    private static final int DO_GREATER_EQUAL = 13;
    private static final int DO_GREATER = 14;

    private final byte[] tape = new byte[TAPE_LIMIT];
    private int tapeLength;
    private final Tokens tokens = new Tokens();
    /** A town is read into this one, so that a fault leaves the one there is. */
    private final Town draft = new Town();
    private final Rule[] rules = new Rule[RULE_LIMIT];
    private int ruleCount;
    private final TownReader townReader;
    private final RuleReader ruleReader;
    private final Situation now = new Situation();
    private final Situation[] images = new Situation[IMAGE_LIMIT];
    private final boolean[] imageMade = new boolean[IMAGE_LIMIT];
    private final Acts acts = new Acts();
    private final Talk talk = new Talk(now.town, now.life);
    private final Truths found = new Truths();
    /** The life that years try out, so that nothing stays of them. */
    private final Life trial = new Life();
    private int trialX;
    /** One mind, to try out what telling would make of it. */
    private final int[] mind = new int[FACT_LIMIT];

    public DailyLie() {
        long[] stack = new long[STACK_LIMIT];
        for (int i = 0; i < RULE_LIMIT; i++) {
            rules[i] = new Rule(stack);
        }
        for (int i = 0; i < IMAGE_LIMIT; i++) {
            images[i] = new Situation();
        }
        townReader = new TownReader(tokens, draft);
        ruleReader = new RuleReader(tokens, rules[0]);
    }

    // The tape and what is read from it.

    public int feed(int a, int b, int c, int d, int e) {
        if (tapeLength + FEED_BYTES > TAPE_LIMIT) {
            return NONE;
        }
        addBytes(a);
        addBytes(b);
        addBytes(c);
        addBytes(d);
        addBytes(e);
        return tapeLength;
    }

    private void addBytes(int number) {
        for (int shift = 24; shift >= 0; shift -= 8) {
            if (tapeLength < TAPE_LIMIT) {
                tape[tapeLength] = (byte) (number >> shift);
                tapeLength++;
            }
        }
    }

    public int end(int n) {
        if (n < 0 || n > tapeLength) {
            return NONE;
        }
        tapeLength = n;
        return n;
    }

    public int town() {
        tokens.cut(tape, tapeLength);
        tapeLength = 0;
        townReader.begin(draft);
        int fault = townReader.readClauses(TOWN_CLAUSES);
        if (fault != 0) {
            return -2 - fault;
        }
        now.settle(draft);
        acts.forget();
        return now.town.people;
    }

    public int rule() {
        if (ruleCount >= RULE_LIMIT) {
            return NONE;
        }
        tokens.cut(tape, tapeLength);
        tapeLength = 0;
        ruleReader.begin(rules[ruleCount]);
        int fault = ruleReader.readClauses(RULE_CLAUSES);
        if (fault != 0) {
            return -2 - fault;
        }
        ruleCount++;
        return ruleCount - 1;
    }

    public int charter(int rule) {
        if (rule != NONE && !hasRule(rule)) {
            return CANNOT;
        }
        int before = now.charter;
        now.charter = rule;
        return before;
    }

    // What is there.

    public int holds(int person, int fact, int what) {
        if (!now.town.hasPerson(person) || !now.town.hasFact(fact)) {
            return NONE;
        }
        int at = person * FACT_LIMIT + fact;
        switch (what) {
            case 0:
                return now.life.held[at];
            case 1:
                return now.life.strength[at];
            case 2:
                return now.life.believed[at];
            default:
                return NONE;
        }
    }

    public int person(int person, int what) {
        if (!now.town.hasPerson(person)) {
            return NONE;
        }
        switch (what) {
            case 0:
                return now.life.lies[person];
            case 1:
                return now.town.harmOf(now.life.believed, person * FACT_LIMIT);
            case 2:
                return now.town.contradictionsOf(now.life.believed, person * FACT_LIMIT);
            case 3:
                return now.town.neighbours[person];
            case 4:
                return bit(now.town.children, person);
            default:
                return NONE;
        }
    }

    public int trust(int one, int other) {
        if (!now.town.hasTwo(one, other)) {
            return NONE;
        }
        return now.town.trust[one * PEOPLE_LIMIT + other];
    }

    public int count(int what) {
        switch (what) {
            case 0:
                return now.town.facts;
            case 1:
                return now.town.so;
            case 2:
                return now.town.people;
            case 3:
                return now.town.streets;
            case 4:
                return ruleCount;
            case 5:
                return now.charter;
            case 6:
                return now.life.day;
            case 7:
                return now.life.hour;
            case 8:
                return now.life.liesOfDay();
            case 9:
                return now.life.harmOfAll(now.town);
            case 10:
                return now.statedCount;
            case 11:
                return now.taleCount;
            case 12:
                return acts.size;
            case 13:
                return now.x;
            case 14:
                return tapeLength;
            default:
                return NONE;
        }
    }

    // Acts.

    public int say(int teller, int hearer, int fact, int said) {
        if (!canSay(teller, hearer, fact, said)) {
            return NONE;
        }
        acts.keep(now.life);
        prepare(now.life, teller, hearer, fact, said);
        return speak();
    }

    public int would(int teller, int hearer, int fact, int said) {
        if (!canSay(teller, hearer, fact, said)) {
            return NONE;
        }
        prepare(now.life, teller, hearer, fact, said);
        return isLie() ? 1 : 0;
    }

    public int meet(int one, int other) {
        if (!now.town.hasStreet(one, other)) {
            return NONE;
        }
        acts.keep(now.life);
        int lesser = Math.min(one, other);
        int greater = Math.max(one, other);
        int lies = tellAll(lesser, greater);
        return lies + tellAll(greater, lesser);
    }

    public int hour() {
        if (!now.town.told || now.life.hour >= DAY_HOURS - 1) {
            return NONE;
        }
        acts.keep(now.life);
        now.life.hour++;
        return now.life.hour;
    }

    public int midnight() {
        if (!now.town.told || now.life.day >= LAST_DAY) {
            return NONE;
        }
        acts.keep(now.life);
        now.life.beginDay(now.town);
        return now.life.day;
    }

    public int undo() {
        if (acts.size == 0) {
            return NONE;
        }
        acts.takeBack(now.life);
        return acts.size;
    }

    public int run(int rule, int n) {
        if (now.town.people == 0 || !hasRule(rule) || n < 1 || n > RUN_HOURS) {
            return NONE;
        }
        if (now.life.day + (now.life.hour + n) / DAY_HOURS > LAST_DAY) {
            return NONE;
        }
        acts.forget();
        int lies = 0;
        for (int i = 0; i < n; i++) {
            lies += liveHour(rules[rule]);
        }
        return lies;
    }

    /** Lets the person whose turn it is speak, then the hour goes by: how many lies were told. */
    private int liveHour(Rule rule) {
        int people = now.town.people;
        if (people == 0) {
            return 0;
        }
        boolean speaks = chooseSaying(rule, now.life.hour % people);
        int lies = speaks ? speak() : 0;
        if (now.life.hour >= DAY_HOURS - 1) {
            now.life.beginDay(now.town);
        } else {
            now.life.hour++;
        }
        return lies;
    }

    /** Prepares what the rule would most have a teller say; whether there is such a thing. */
    private boolean chooseSaying(Rule rule, int teller) {
        long best = 0;
        int hearer = NONE;
        int fact = 0;
        int said = 0;
        for (int h = 0; h < now.town.people; h++) {
            int choices = now.town.hasStreet(teller, h) ? 2 * now.town.facts : 0;
            for (int choice = 0; choice < choices; choice++) {
                prepare(now.life, teller, h, choice >> 1, choice & 1);
                long score = rule.scoreOf(talk);
                if (score > best) {
                    best = score;
                    hearer = h;
                    fact = choice >> 1;
                    said = choice & 1;
                }
            }
        }
        if (hearer == NONE) {
            return false;
        }
        prepare(now.life, teller, hearer, fact, said);
        return true;
    }

    private boolean hasRule(int rule) {
        return rule >= 0 && rule < ruleCount;
    }

    private boolean canSay(int teller, int hearer, int fact, int said) {
        return now.town.hasStreet(teller, hearer) && now.town.hasFact(fact) && isBit(said);
    }

    /** Makes a saying the one talked of; it is told by hand, not passed on. */
    private void prepare(Life life, int teller, int hearer, int fact, int said) {
        talk.life = life;
        talk.teller = teller;
        talk.hearer = hearer;
        talk.fact = fact;
        talk.said = said;
        talk.second = 0;
    }

    /** Tells what was prepared: 1 if it is a lie, else 0. */
    private int speak() {
        boolean lie = isLie();
        if (lie) {
            talk.life.countLie(talk.hearer);
        }
        talk.life.hear(talk);
        return lie ? 1 : 0;
    }

    private boolean isLie() {
        int charter = now.charter;
        if (hasRule(charter) && rules[charter].judges) {
            return rules[charter].findsLie(talk);
        }
        return talk.said != bit(now.town.so, talk.fact);
    }

    /** One side of a meeting: how many lies were told. */
    private int tellAll(int teller, int hearer) {
        int lies = 0;
        for (int fact = 0; fact < now.town.facts; fact++) {
            int said = now.life.held[teller * FACT_LIMIT + fact];
            if (said != NOTHING && said != now.life.held[hearer * FACT_LIMIT + fact]) {
                prepare(now.life, teller, hearer, fact, said);
                talk.second = 1;
                lies += speak();
            }
        }
        return lies;
    }

    // What follows from it all.

    public int breach(int what) {
        if (!now.town.told || !isBit(what)) {
            return NONE;
        }
        if (now.life.breachWho == NONE) {
            return CANNOT;
        }
        return what == 0 ? now.life.breachHour : now.life.breachWho;
    }

    public int tellers(int what) {
        if (!now.town.told || !isBit(what)) {
            return NONE;
        }
        int fewest = PEOPLE_LIMIT + 1;
        int best = CANNOT;
        for (int set = 0; set < 1 << now.town.people; set++) {
            int size = Integer.bitCount(set);
            if (size < fewest && now.town.reachesAll(set)) {
                fewest = size;
                best = set;
            }
        }
        return best == CANNOT || what == 1 ? best : fewest;
    }

    public int leastLie(int teller, int hearer, int what) {
        if (!now.town.hasStreet(teller, hearer) || !isBit(what)) {
            return NONE;
        }
        int fact = leastLieFact(teller, hearer);
        return what == 0 ? fact : harmBehindLie(teller, hearer, fact);
    }

    private int leastLieFact(int teller, int hearer) {
        int best = 0;
        int least = harmBehindLie(teller, hearer, 0);
        for (int fact = 1; fact < now.town.facts; fact++) {
            int harm = harmBehindLie(teller, hearer, fact);
            if (harm < least) {
                least = harm;
                best = fact;
            }
        }
        return best;
    }

    /** The hearer's harm if a fact were told as it is not. */
    private int harmBehindLie(int teller, int hearer, int fact) {
        System.arraycopy(now.life.held, hearer * FACT_LIMIT, mind, 0, FACT_LIMIT);
        if (now.life.accepts(now.town, teller, hearer, fact)) {
            mind[fact] = 1 - bit(now.town.so, fact);
        }
        now.town.addWhatFollows(mind, 0);
        return now.town.harmOf(mind, 0);
    }

    public int evening() {
        if (!now.town.told) {
            return NONE;
        }
        int harm = 0;
        for (int person = 0; person < now.town.people; person++) {
            harm += eveningHarm(person);
        }
        return harm;
    }

    private int eveningHarm(int person) {
        int asItIs = now.town.harmOf(now.life.believed, person * FACT_LIMIT);
        if (now.life.lies[person] > 0 || now.town.neighbours[person] == 0) {
            return asItIs;
        }
        int least = NONE;
        for (int teller = 0; teller < now.town.people; teller++) {
            if (now.town.hasStreet(teller, person)) {
                int fact = leastLieFact(teller, person);
                int harm = harmBehindLie(teller, person, fact);
                least = least == NONE ? harm : Math.min(least, harm);
            }
        }
        return least;
    }

    public int walls(int one, int other, int what) {
        if (!now.town.hasTwo(one, other) || !isBit(what)) {
            return NONE;
        }
        int fewest = STREET_LIMIT + 1;
        int best = 0;
        for (int set = 0; set < 1 << now.town.streets; set++) {
            int size = Integer.bitCount(set);
            if (size < fewest && now.town.distance(one, other, set) == CANNOT) {
                fewest = size;
                best = set;
            }
        }
        return what == 0 ? fewest : best;
    }

    public int leak(int from, int to) {
        if (!now.town.hasPerson(from) || !now.town.hasPerson(to)) {
            return NONE;
        }
        return now.town.distance(from, to, 0);
    }

    // Who lies, and by which schedule.

    public int stated(int person, int fact, int said) {
        if (person == NONE) {
            now.statedCount = 0;
            return 0;
        }
        boolean known = now.town.hasPerson(person) && now.town.hasFact(fact) && isBit(said);
        if (!known || now.statedCount >= STATED_LIMIT) {
            return CANNOT;
        }
        now.addStated(person, fact, said);
        return now.statedCount;
    }

    public int truths(int what) {
        if (!now.town.told || what < 0 || what > 4) {
            return NONE;
        }
        found.weigh(now);
        if (found.ways == 0) {
            return 0;
        }
        switch (what) {
            case 0:
                return found.ways;
            case 1:
                return found.alwaysSo;
            case 2:
                return found.neverSo;
            case 3:
                return found.liars;
            default:
                return found.honest;
        }
    }

    public int ask(int what) {
        if (!now.town.told || !isBit(what)) {
            return NONE;
        }
        found.weigh(now);
        if (found.ways == 0) {
            return CANNOT;
        }
        int best = 0;
        for (int fact = 1; fact < now.town.facts; fact++) {
            if (found.mostAgreeing(fact) < found.mostAgreeing(best)) {
                best = fact;
            }
        }
        return what == 0 ? best : found.mostAgreeing(best);
    }

    public int tale(int place, boolean isLie) {
        if (place == NONE) {
            now.forgetTales();
            return 0;
        }
        if (place < 0 || place >= PLACE_LIMIT || now.taleCount >= TALE_LIMIT) {
            return CANNOT;
        }
        now.addTale(place, isLie);
        return now.taleCount;
    }

    public int schedules(int n, int k, int what) {
        if (n < 1 || n > PLACE_LIMIT || k < 0 || k > n || !isBit(what)) {
            return NONE;
        }
        int all = (1 << n) - 1;
        int ways = 0;
        int inAll = all;
        for (int set = 0; set <= all; set++) {
            if (Integer.bitCount(set) == k && now.fitsTales(set, all)) {
                ways++;
                inAll &= set;
            }
        }
        if (ways == 0) {
            return 0;
        }
        return what == 0 ? ways : inAll;
    }

    // Years by draws.

    public int seed(int x) {
        if (x < 0) {
            return NONE;
        }
        int before = now.x;
        now.x = x;
        return before;
    }

    public int years(int m, int n, int what) {
        boolean inBounds = m >= 1 && m <= YEARS_LIMIT && n >= 1 && n <= YEAR_DAYS && what >= 0 && what <= 2;
        if (!now.town.told || !inBounds) {
            return NONE;
        }
        trialX = now.x;
        int sum = 0;
        for (int year = 0; year < m; year++) {
            trial.copyFrom(now.life);
            for (int day = 0; day < n; day++) {
                sum += tryDay(what);
            }
            sum += what == 2 ? trial.harmOfAll(now.town) : 0;
        }
        return sum;
    }

    /** A drawn day: what of it is added to the years, lies or people lied to just once. */
    private int tryDay(int what) {
        trial.beginDay(now.town);
        int streets = now.town.streets;
        int facts = now.town.facts;
        int hours = streets > 0 && facts > 0 ? DRAWN_HOURS : 0;
        for (int hour = 0; hour < hours; hour++) {
            trial.hour = hour;
            int street = draw() % streets;
            boolean lesserTells = draw() % 2 == 0;
            int fact = draw() % facts;
            int said = draw() % 2;
            int lesser = Math.min(now.town.streetOne[street], now.town.streetOther[street]);
            int greater = Math.max(now.town.streetOne[street], now.town.streetOther[street]);
            prepare(trial, lesserTells ? lesser : greater, lesserTells ? greater : lesser, fact, said);
            speak();
        }
        switch (what) {
            case 0:
                return trial.liesOfDay();
            case 1:
                return trial.liedToOnce();
            default:
                return 0;
        }
    }

    private int draw() {
        trialX = (int) ((trialX * 1103515245L + 12345L) % 2147483648L);
        return trialX / 65536;
    }

    // Images.

    public int image(int k) {
        if (k < 0 || k >= IMAGE_LIMIT) {
            return NONE;
        }
        images[k].copyFrom(now);
        imageMade[k] = true;
        return now.life.day;
    }

    public int back(int k) {
        if (k < 0 || k >= IMAGE_LIMIT || !imageMade[k]) {
            return NONE;
        }
        now.copyFrom(images[k]);
        acts.forget();
        return now.life.day;
    }

    private static int bit(int set, int place) {
        return (set >> place) & 1;
    }

    private static boolean isBit(int number) {
        return number == 0 || number == 1;
    }

    /** A text cut into words, numbers, signs and other bytes, with a mark that goes along them. */
    private static final class Tokens {
        private final int[] kind = new int[TAPE_LIMIT + 1];
        private final int[] value = new int[TAPE_LIMIT + 1];
        private final int[] place = new int[TAPE_LIMIT + 1];
        private int size;
        private int mark;
        /** The first fault that was met, 0 as long as there is none. */
        private int fault;

        void cut(byte[] text, int length) {
            size = 0;
            mark = 0;
            fault = 0;
            for (int at = 0; at < length; at++) {
                if (at > 0 && size > 0 && goesOn(text[at - 1], text[at])) {
                    value[size - 1]++;
                } else if (text[at] != ' ') {
                    begin(kindOf(text[at]), at);
                }
            }
            for (int i = 0; i < size; i++) {
                settleValue(i, text);
            }
            begin(T_END, length);
        }

        /** Until its value is settled, a token's value is how many bytes it has. */
        private void begin(int tokenKind, int at) {
            if (size < kind.length) {
                kind[size] = tokenKind;
                value[size] = 1;
                place[size] = at;
                size++;
            }
        }

        private static boolean goesOn(int before, int here) {
            if (isLetter(here)) {
                return isLetter(before);
            }
            if (isDigit(here)) {
                return isDigit(before);
            }
            return here == '=' && (before == '<' || before == '>');
        }

        private static int kindOf(int here) {
            if (isLetter(here)) {
                return T_WORD;
            }
            if (isDigit(here)) {
                return T_NUMBER;
            }
            return here == '<' || here == '=' || here == '>' ? T_SIGN : T_BYTE;
        }

        private static boolean isLetter(int here) {
            return here >= 'a' && here <= 'z';
        }

        private static boolean isDigit(int here) {
            return here >= '0' && here <= '9';
        }

        private void settleValue(int i, byte[] text) {
            int from = place[i];
            int length = value[i];
            switch (kind[i]) {
                case T_WORD:
                    value[i] = wordNumber(text, from, from + length);
                    break;
                case T_NUMBER:
                    if (length > 5) {
                        kind[i] = T_LONG_NUMBER;
                    } else {
                        value[i] = numberOf(text, from, from + length);
                    }
                    break;
                case T_SIGN:
                    value[i] = signStep(text[from], length);
                    break;
                default:
                    value[i] = text[from];
                    break;
            }
        }

        private static int wordNumber(byte[] text, int from, int to) {
            int word = 0;
            int at = from;
            boolean same = true;
            for (int i = 0; i < WORDS.length(); i++) {
                char letter = WORDS.charAt(i);
                if (letter != ' ') {
                    same = same && at < to && text[at] == letter;
                    at++;
                } else if (same && at == to) {
                    return word;
                } else {
                    word++;
                    at = from;
                    same = true;
                }
            }
            return NONE;
        }

        private static int numberOf(byte[] text, int from, int to) {
            int number = 0;
            for (int at = from; at < to; at++) {
                number = number * 10 + (text[at] - '0');
            }
            return number;
        }

        private static int signStep(int first, int length) {
            if (first == '=') {
                return DO_EQUAL;
            }
            if (first == '<') {
                return length == 1 ? DO_LESS : DO_LESS_EQUAL;
            }
            return length == 1 ? DO_GREATER : DO_GREATER_EQUAL;
        }

        boolean fine() {
            return fault == 0;
        }

        /** Only the first fault counts; the mark never goes back, so it is the first along the text. */
        void fail(int which) {
            if (fault == 0) {
                fault = 1 + 8 * place[mark] + which;
            }
        }

        /** For a number that was read already, but can't be that one. */
        void refuseNumber() {
            if (fault == 0 && mark > 0) {
                fault = 1 + 8 * place[mark - 1] + BAD_NUMBER;
            }
        }

        void step() {
            if (mark < size - 1) {
                mark++;
            }
        }

        int kindHere() {
            return kind[mark];
        }

        int valueHere() {
            return value[mark];
        }

        /** The number of the word at the mark; NONE for another word and for all else. */
        int wordHere() {
            return kind[mark] == T_WORD ? value[mark] : NONE;
        }

        boolean isByte(int sign) {
            return kind[mark] == T_BYTE && value[mark] == sign;
        }

        /** Reads a number of these bounds; 0 if there is a fault. */
        int readNumber(int low, int high) {
            if (fault != 0) {
                return 0;
            }
            boolean tooLong = kind[mark] == T_LONG_NUMBER;
            if (kind[mark] != T_NUMBER && !tooLong) {
                fail(BAD_PLACE);
                return 0;
            }
            int number = value[mark];
            if (tooLong || number < low || number > high) {
                fail(BAD_NUMBER);
                return 0;
            }
            step();
            return number;
        }
    }

    /** What reads clauses with ; between them. */
    private abstract static class ClauseReader {
        final Tokens tokens;

        ClauseReader(Tokens tokens) {
            this.tokens = tokens;
        }

        abstract void readClause(int clause);

        /** The fault, or 0. One clause more than the limit is tried, for its own fault may be a lesser one. */
        final int readClauses(int limit) {
            readClause(0);
            for (int clause = 1; clause <= limit && tokens.fine() && tokens.isByte(';'); clause++) {
                tokens.step();
                readClause(clause);
            }
            if (tokens.kindHere() != T_END) {
                tokens.fail(BAD_PLACE);
            }
            return tokens.fault;
        }
    }

    private static final class TownReader extends ClauseReader {
        private Town town;

        TownReader(Tokens tokens, Town town) {
            super(tokens);
            this.town = town;
        }

        void begin(Town into) {
            town = into;
            town.clear();
        }

        void readClause(int clause) {
            int word = tokens.wordHere();
            if (word < W_FACTS || word > W_CORRECT) {
                tokens.fail(BAD_PLACE);
            } else if (clause >= TOWN_CLAUSES || isOneTooMany(word, clause)) {
                tokens.fail(ONE_CLAUSE_TOO_MANY);
            } else {
                tokens.step();
                readBehind(word);
            }
        }

        private boolean isOneTooMany(int word, int clause) {
            if (clause == 0) {
                return word != W_FACTS;
            }
            switch (word) {
                case W_FACTS:
                    return true;
                case W_PERSON:
                    return town.people >= PEOPLE_LIMIT;
                case W_STREET:
                    return town.streets >= STREET_LIMIT;
                case W_IF:
                    return town.ifs >= IF_LIMIT;
                case W_HARM:
                    return town.harms >= HARM_LIMIT;
                case W_CORRECT:
                    return town.corrects;
                default:
                    return false;
            }
        }

        private void readBehind(int word) {
            switch (word) {
                case W_FACTS:
                    readFacts();
                    break;
                case W_PERSON:
                    readPerson();
                    break;
                case W_TRUST:
                    readTrust();
                    break;
                case W_STREET:
                    readStreet();
                    break;
                case W_IF:
                    readIf();
                    break;
                case W_HARM:
                    readHarm();
                    break;
                case W_CHILD:
                    readChild();
                    break;
                default:
                    town.corrects = true;
                    break;
            }
        }

        private void readFacts() {
            int facts = tokens.readNumber(1, FACT_LIMIT);
            int so = tokens.readNumber(0, (1 << facts) - 1);
            town.facts = facts;
            town.so = so;
        }

        private void readPerson() {
            int known = tokens.readNumber(0, (1 << town.facts) - 1);
            if (tokens.fine()) {
                town.knows[town.people] = known;
                town.people++;
            }
        }

        private void readTrust() {
            int one = tokens.readNumber(0, town.people - 1);
            int other = tokens.readNumber(0, town.people - 1);
            if (one == other) {
                tokens.refuseNumber();
            }
            int much = tokens.readNumber(0, MOST_TRUST);
            if (tokens.fine()) {
                town.trust[one * PEOPLE_LIMIT + other] = much;
            }
        }

        private void readStreet() {
            int one = tokens.readNumber(0, town.people - 1);
            int other = tokens.readNumber(0, town.people - 1);
            if (one == other || town.hasStreet(one, other)) {
                tokens.refuseNumber();
            }
            if (tokens.fine()) {
                town.addStreet(one, other);
            }
        }

        private void readIf() {
            int fact = tokens.readNumber(0, town.facts - 1);
            int value = tokens.readNumber(0, 1);
            int other = tokens.readNumber(0, town.facts - 1);
            if (fact == other) {
                tokens.refuseNumber();
            }
            int otherValue = tokens.readNumber(0, 1);
            if (tokens.fine()) {
                town.addIf(fact, value, other, otherValue);
            }
        }

        private void readHarm() {
            int fact = tokens.readNumber(0, town.facts - 1);
            int value = tokens.readNumber(0, 1);
            int much = tokens.readNumber(1, MOST_HARM);
            if (tokens.fine()) {
                town.addHarm(fact, value, much);
            }
        }

        private void readChild() {
            int child = tokens.readNumber(0, town.people - 1);
            if (tokens.fine()) {
                town.children |= 1 << child;
            }
        }
    }

    private static final class RuleReader extends ClauseReader {
        private Rule rule;
        /** Values and signs that were read, together. */
        private int parts;

        RuleReader(Tokens tokens, Rule rule) {
            super(tokens);
            this.rule = rule;
        }

        void begin(Rule into) {
            rule = into;
            rule.clear();
            parts = 0;
        }

        void readClause(int clause) {
            int word = tokens.wordHere();
            if (word != W_LIE && word != W_SAY) {
                tokens.fail(BAD_PLACE);
                return;
            }
            if (clause >= RULE_CLAUSES) {
                tokens.fail(ONE_CLAUSE_TOO_MANY);
                return;
            }
            tokens.step();
            int from = rule.size;
            if (word == W_SAY) {
                readSum();
            }
            int testFrom = rule.size;
            if (word == W_LIE) {
                readTest(0);
            } else if (tokens.fine() && tokens.wordHere() == W_IF) {
                tokens.step();
                readTest(0);
            }
            if (tokens.fine()) {
                rule.addClause(word == W_LIE, from, testFrom);
            }
        }

        /** An or waits for all that is bound by and behind it. */
        private void readTest(int depth) {
            readFact(depth);
            boolean orWaits = false;
            for (int i = 0; i < TAPE_LIMIT && tokens.fine() && isJoint(tokens.wordHere()); i++) {
                boolean isOr = tokens.wordHere() == W_OR;
                if (isOr && orWaits) {
                    rule.addStep(DO_OR, 0);
                }
                orWaits = orWaits || isOr;
                tokens.step();
                readFact(depth);
                if (!isOr) {
                    rule.addStep(DO_AND, 0);
                }
            }
            if (orWaits) {
                rule.addStep(DO_OR, 0);
            }
        }

        private static boolean isJoint(int word) {
            return word == W_OR || word == W_AND;
        }

        private void readFact(int depth) {
            boolean isNot = tokens.wordHere() == W_NOT;
            boolean opens = isNot || tokens.isByte('[');
            if (opens && depth >= DEEPEST) {
                tokens.fail(TOO_DEEP);
            } else if (isNot) {
                tokens.step();
                readFact(depth + 1);
                rule.addStep(DO_NOT, 0);
            } else if (opens) {
                tokens.step();
                readTest(depth + 1);
                readClosing();
            } else {
                readSum();
                int sign = readSign();
                readSum();
                rule.addStep(sign, 0);
            }
        }

        private void readClosing() {
            if (tokens.isByte(']')) {
                tokens.step();
            } else {
                tokens.fail(BAD_PLACE);
            }
        }

        /** The step that a sign stands for. */
        private int readSign() {
            int sign = tokens.valueHere();
            if (tokens.kindHere() != T_SIGN) {
                tokens.fail(BAD_PLACE);
            } else if (parts >= PARTS_LIMIT) {
                tokens.fail(ONE_PART_TOO_MANY);
            }
            if (tokens.fine()) {
                parts++;
                tokens.step();
            }
            return sign;
        }

        /** A plus or minus waits for all that is multiplied or divided behind it. */
        private void readSum() {
            readValue();
            int waiting = NONE;
            for (int i = 0; i < TAPE_LIMIT && tokens.fine(); i++) {
                int step = arithmeticStep();
                if (step == NONE) {
                    break;
                }
                boolean binds = step >= DO_TIMES;
                if (!binds && waiting != NONE) {
                    rule.addStep(waiting, 0);
                }
                waiting = binds ? waiting : step;
                tokens.step();
                readValue();
                if (binds) {
                    rule.addStep(step, 0);
                }
            }
            if (waiting != NONE) {
                rule.addStep(waiting, 0);
            }
        }

        private int arithmeticStep() {
            if (tokens.kindHere() != T_BYTE) {
                return NONE;
            }
            switch (tokens.valueHere()) {
                case '+':
                    return DO_PLUS;
                case '-':
                    return DO_MINUS;
                case '*':
                    return DO_TIMES;
                case '/':
                    return DO_DIVIDE;
                case '%':
                    return DO_REST;
                default:
                    return NONE;
            }
        }

        private void readValue() {
            boolean isNumber = tokens.kindHere() == T_NUMBER;
            if (tokens.kindHere() == T_LONG_NUMBER) {
                tokens.fail(BAD_NUMBER);
            } else if (!isNumber && !isValueWord(tokens.wordHere())) {
                tokens.fail(BAD_PLACE);
            } else if (parts >= PARTS_LIMIT) {
                tokens.fail(ONE_PART_TOO_MANY);
            }
            if (tokens.fine()) {
                parts++;
                rule.addStep(isNumber ? DO_NUMBER : DO_WORD, tokens.valueHere());
                tokens.step();
            }
        }

        private static boolean isValueWord(int word) {
            return word == W_TRUST || word == W_HARM || word == W_CHILD || word >= W_TELLER;
        }
    }

    /** A rule as steps over a stack; a clause's steps are those of its sum, then those of its test. */
    private static final class Rule {
        private final long[] stack;
        private final int[] does = new int[TAPE_LIMIT];
        private final int[] with = new int[TAPE_LIMIT];
        private int size;
        private final boolean[] isLie = new boolean[RULE_CLAUSES];
        private final int[] sumFrom = new int[RULE_CLAUSES];
        private final int[] testFrom = new int[RULE_CLAUSES];
        private final int[] testTo = new int[RULE_CLAUSES];
        private int clauses;
        /** Whether some clause tells what is a lie. */
        private boolean judges;

        Rule(long[] stack) {
            this.stack = stack;
        }

        void clear() {
            size = 0;
            clauses = 0;
            judges = false;
        }

        void addStep(int step, int operand) {
            if (size < TAPE_LIMIT) {
                does[size] = step;
                with[size] = operand;
                size++;
            }
        }

        void addClause(boolean lie, int from, int middle) {
            if (clauses < RULE_CLAUSES) {
                isLie[clauses] = lie;
                sumFrom[clauses] = from;
                testFrom[clauses] = middle;
                testTo[clauses] = size;
                clauses++;
                judges = judges || lie;
            }
        }

        boolean findsLie(Talk talk) {
            for (int i = 0; i < clauses; i++) {
                if (isLie[i] && work(testFrom[i], testTo[i], talk) != 0) {
                    return true;
                }
            }
            return false;
        }

        long scoreOf(Talk talk) {
            for (int i = 0; i < clauses; i++) {
                boolean always = testFrom[i] == testTo[i];
                if (!isLie[i] && (always || work(testFrom[i], testTo[i], talk) != 0)) {
                    return work(sumFrom[i], testFrom[i], talk);
                }
            }
            return 0;
        }

        private long work(int from, int to, Talk talk) {
            int top = 0;
            for (int i = from; i < to; i++) {
                int step = does[i];
                if (step == DO_NUMBER || step == DO_WORD) {
                    if (top < stack.length) {
                        stack[top] = step == DO_NUMBER ? with[i] : talk.valueOf(with[i]);
                        top++;
                    }
                } else if (step == DO_NOT) {
                    if (top >= 1) {
                        stack[top - 1] = 1 - stack[top - 1];
                    }
                } else if (top >= 2) {
                    top--;
                    stack[top - 1] = combine(step, stack[top - 1], stack[top]);
                }
            }
            return top > 0 ? stack[0] : 0;
        }

        private static long combine(int step, long left, long right) {
            switch (step) {
                case DO_AND:
                    return left & right;
                case DO_OR:
                    return left | right;
                case DO_PLUS:
                    return left + right;
                case DO_MINUS:
                    return left - right;
                case DO_TIMES:
                    return left * right;
                case DO_DIVIDE:
                    return right == 0 ? 0 : left / right;
                case DO_REST:
                    return right == 0 ? 0 : left % right;
                default:
                    return compare(step, left, right) ? 1 : 0;
            }
        }

        private static boolean compare(int step, long left, long right) {
            switch (step) {
                case DO_LESS:
                    return left < right;
                case DO_LESS_EQUAL:
                    return left <= right;
                case DO_EQUAL:
                    return left == right;
                case DO_GREATER_EQUAL:
                    return left >= right;
                default:
                    return left > right;
            }
        }
    }

    /** A town as it was told; what becomes of its people is their life. */
    private static final class Town {
        private boolean told;
        private int facts;
        private int so;
        private int people;
        private final int[] knows = new int[PEOPLE_LIMIT];
        private final int[] trust = new int[PEOPLE_LIMIT * PEOPLE_LIMIT];
        private int streets;
        private final int[] streetOne = new int[STREET_LIMIT];
        private final int[] streetOther = new int[STREET_LIMIT];
        /** To whom streets go from each person, as bits. */
        private final int[] neighbours = new int[PEOPLE_LIMIT];
        private int ifs;
        /** Of each if the fact, its value, the other fact, its value. */
        private final int[] ifRows = new int[4 * IF_LIMIT];
        private int harms;
        /** Of each harm the fact, its value, how much. */
        private final int[] harmRows = new int[3 * HARM_LIMIT];
        private int children;
        private boolean corrects;

        void clear() {
            told = false;
            facts = 0;
            so = 0;
            people = 0;
            streets = 0;
            ifs = 0;
            harms = 0;
            children = 0;
            corrects = false;
            Arrays.fill(trust, USUAL_TRUST);
            Arrays.fill(neighbours, 0);
        }

        void copyFrom(Town other) {
            told = other.told;
            facts = other.facts;
            so = other.so;
            people = other.people;
            streets = other.streets;
            ifs = other.ifs;
            harms = other.harms;
            children = other.children;
            corrects = other.corrects;
            System.arraycopy(other.knows, 0, knows, 0, PEOPLE_LIMIT);
            System.arraycopy(other.trust, 0, trust, 0, PEOPLE_LIMIT * PEOPLE_LIMIT);
            System.arraycopy(other.streetOne, 0, streetOne, 0, STREET_LIMIT);
            System.arraycopy(other.streetOther, 0, streetOther, 0, STREET_LIMIT);
            System.arraycopy(other.neighbours, 0, neighbours, 0, PEOPLE_LIMIT);
            System.arraycopy(other.ifRows, 0, ifRows, 0, 4 * IF_LIMIT);
            System.arraycopy(other.harmRows, 0, harmRows, 0, 3 * HARM_LIMIT);
        }

        boolean hasPerson(int person) {
            return person >= 0 && person < people;
        }

        boolean hasTwo(int one, int other) {
            return one != other && hasPerson(one) && hasPerson(other);
        }

        boolean hasFact(int fact) {
            return fact >= 0 && fact < facts;
        }

        boolean hasStreet(int one, int other) {
            return hasTwo(one, other) && bit(neighbours[one], other) == 1;
        }

        void addStreet(int one, int other) {
            if (streets < STREET_LIMIT) {
                streetOne[streets] = one;
                streetOther[streets] = other;
                streets++;
                neighbours[one] |= 1 << other;
                neighbours[other] |= 1 << one;
            }
        }

        void addIf(int fact, int value, int other, int otherValue) {
            if (ifs < IF_LIMIT) {
                ifRows[4 * ifs] = fact;
                ifRows[4 * ifs + 1] = value;
                ifRows[4 * ifs + 2] = other;
                ifRows[4 * ifs + 3] = otherValue;
                ifs++;
            }
        }

        void addHarm(int fact, int value, int much) {
            if (harms < HARM_LIMIT) {
                harmRows[3 * harms] = fact;
                harmRows[3 * harms + 1] = value;
                harmRows[3 * harms + 2] = much;
                harms++;
            }
        }

        /** Adds to what is held, in a row from a place on, all that follows from it. */
        void addWhatFollows(int[] row, int from) {
            for (int round = 0; round < FACT_LIMIT; round++) {
                int next = firstFollowing(row, from);
                if (next == NONE) {
                    return;
                }
                row[from + ifRows[4 * next + 2]] = ifRows[4 * next + 3];
            }
        }

        private int firstFollowing(int[] row, int from) {
            for (int i = 0; i < ifs; i++) {
                boolean applies = row[from + ifRows[4 * i]] == ifRows[4 * i + 1];
                if (applies && row[from + ifRows[4 * i + 2]] == NOTHING) {
                    return i;
                }
            }
            return NONE;
        }

        int contradictionsOf(int[] row, int from) {
            int sum = 0;
            for (int i = 0; i < ifs; i++) {
                boolean applies = row[from + ifRows[4 * i]] == ifRows[4 * i + 1];
                if (applies && row[from + ifRows[4 * i + 2]] != ifRows[4 * i + 3]) {
                    sum++;
                }
            }
            return sum;
        }

        int harmOf(int[] row, int from) {
            int sum = 0;
            for (int i = 0; i < harms; i++) {
                if (row[from + harmRows[3 * i]] == harmRows[3 * i + 1]) {
                    sum += harmRows[3 * i + 2];
                }
            }
            return sum;
        }

        int harmOfFact(int fact, int value) {
            int sum = 0;
            for (int i = 0; i < harms; i++) {
                if (harmRows[3 * i] == fact && harmRows[3 * i + 1] == value) {
                    sum += harmRows[3 * i + 2];
                }
            }
            return sum;
        }

        /** Whether each person has a street to one of a set. */
        boolean reachesAll(int set) {
            for (int person = 0; person < people; person++) {
                if ((neighbours[person] & set) == 0) {
                    return false;
                }
            }
            return true;
        }

        /** How many streets lie between two, without those that are walled up; CANNOT if there is no way. */
        int distance(int from, int to, int walled) {
            int reached = 1 << from;
            for (int steps = 0; steps < PEOPLE_LIMIT; steps++) {
                if (bit(reached, to) == 1) {
                    return steps;
                }
                reached = spread(reached, walled);
            }
            return CANNOT;
        }

        private int spread(int reached, int walled) {
            int wider = reached;
            for (int i = 0; i < streets; i++) {
                if (bit(walled, i) == 0) {
                    int ends = (1 << streetOne[i]) | (1 << streetOther[i]);
                    wider |= (reached & ends) != 0 ? ends : 0;
                }
            }
            return wider;
        }
    }

    /** What became of the people of a town up to an hour: all that an act changes. */
    private static final class Life {
        /** Of person p and fact f at p * FACT_LIMIT + f, as in the next two. */
        private final int[] held = new int[PEOPLE_LIMIT * FACT_LIMIT];
        private final int[] strength = new int[PEOPLE_LIMIT * FACT_LIMIT];
        /** Worked out anew whenever what is held changes. */
        private final int[] believed = new int[PEOPLE_LIMIT * FACT_LIMIT];
        private final int[] lies = new int[PEOPLE_LIMIT];
        private int day;
        private int hour;
        private int breachHour;
        /** NONE as long as there is no breach on that day. */
        private int breachWho = NONE;

        void begin(Town town) {
            Arrays.fill(held, NOTHING);
            Arrays.fill(strength, 0);
            for (int person = 0; person < town.people; person++) {
                for (int fact = 0; fact < town.facts; fact++) {
                    if (bit(town.knows[person], fact) == 1) {
                        held[person * FACT_LIMIT + fact] = bit(town.so, fact);
                        strength[person * FACT_LIMIT + fact] = KNOWN_STRENGTH;
                    }
                }
                conclude(town, person);
            }
            day = 0;
            hour = 0;
            forgetLies();
        }

        void copyFrom(Life other) {
            System.arraycopy(other.held, 0, held, 0, PEOPLE_LIMIT * FACT_LIMIT);
            System.arraycopy(other.strength, 0, strength, 0, PEOPLE_LIMIT * FACT_LIMIT);
            System.arraycopy(other.believed, 0, believed, 0, PEOPLE_LIMIT * FACT_LIMIT);
            System.arraycopy(other.lies, 0, lies, 0, PEOPLE_LIMIT);
            day = other.day;
            hour = other.hour;
            breachHour = other.breachHour;
            breachWho = other.breachWho;
        }

        private void conclude(Town town, int person) {
            System.arraycopy(held, person * FACT_LIMIT, believed, person * FACT_LIMIT, FACT_LIMIT);
            town.addWhatFollows(believed, person * FACT_LIMIT);
        }

        private void forgetLies() {
            Arrays.fill(lies, 0);
            breachHour = 0;
            breachWho = NONE;
        }

        void beginDay(Town town) {
            day = Math.min(day + 1, LAST_DAY);
            hour = 0;
            forgetLies();
            if (town.corrects) {
                correctAll(town);
            }
        }

        private void correctAll(Town town) {
            for (int person = 0; person < town.people; person++) {
                for (int fact = 0; fact < town.facts; fact++) {
                    int at = person * FACT_LIMIT + fact;
                    if (held[at] != bit(town.so, fact)) {
                        held[at] = NOTHING;
                        strength[at] = 0;
                    }
                }
                conclude(town, person);
            }
        }

        void countLie(int hearer) {
            lies[hearer]++;
            if (lies[hearer] == 2 && breachWho == NONE) {
                breachHour = hour;
                breachWho = hearer;
            }
        }

        boolean accepts(Town town, int teller, int hearer, int fact) {
            int at = hearer * FACT_LIMIT + fact;
            return held[at] == NOTHING || town.trust[hearer * PEOPLE_LIMIT + teller] >= strength[at];
        }

        void hear(Talk talk) {
            if (accepts(talk.town, talk.teller, talk.hearer, talk.fact)) {
                int at = talk.hearer * FACT_LIMIT + talk.fact;
                held[at] = talk.said;
                strength[at] = talk.town.trust[talk.hearer * PEOPLE_LIMIT + talk.teller];
                conclude(talk.town, talk.hearer);
            }
        }

        int liesOfDay() {
            int sum = 0;
            for (int person = 0; person < PEOPLE_LIMIT; person++) {
                sum += lies[person];
            }
            return sum;
        }

        int liedToOnce() {
            int sum = 0;
            for (int person = 0; person < PEOPLE_LIMIT; person++) {
                sum += lies[person] == 1 ? 1 : 0;
            }
            return sum;
        }

        int harmOfAll(Town town) {
            int sum = 0;
            for (int person = 0; person < town.people; person++) {
                sum += town.harmOf(believed, person * FACT_LIMIT);
            }
            return sum;
        }
    }

    /** A saying ahead of being told, and where it is told. */
    private static final class Talk {
        private final Town town;
        /** The life there is, or one that is tried out. */
        private Life life;
        private int teller;
        private int hearer;
        private int fact;
        private int said;
        /** 1 if it is passed on in a meeting. */
        private int second;

        Talk(Town town, Life life) {
            this.town = town;
            this.life = life;
        }

        long valueOf(int word) {
            switch (word) {
                case W_TELLER:
                    return teller;
                case W_HEARER:
                    return hearer;
                case W_FACT:
                    return fact;
                case W_SAID:
                    return said;
                case W_SO:
                    return bit(town.so, fact);
                case W_HOLDS:
                    return life.believed[teller * FACT_LIMIT + fact];
                case W_HEARD:
                    return life.believed[hearer * FACT_LIMIT + fact];
                case W_LIES:
                    return life.lies[hearer];
                case W_CHILD:
                    return bit(town.children, hearer);
                case W_TRUST:
                    return town.trust[hearer * PEOPLE_LIMIT + teller];
                case W_HARM:
                    return town.harmOfFact(fact, said);
                case W_SECOND:
                    return second;
                case W_HOUR:
                    return life.hour;
                default:
                    return life.day;
            }
        }
    }

    /** All that an image keeps. */
    private static final class Situation {
        private final Town town = new Town();
        private final Life life = new Life();
        private int charter = NONE;
        private int x;
        private int statedCount;
        /** Of each what was stated the person, the fact, 0 or 1. */
        private final int[] statedRows = new int[3 * STATED_LIMIT];
        private int taleCount;
        /** Places that were lies by the tales, and those that were none, as bits. */
        private int taleLies;
        private int taleNoLies;

        void copyFrom(Situation other) {
            town.copyFrom(other.town);
            life.copyFrom(other.life);
            charter = other.charter;
            x = other.x;
            statedCount = other.statedCount;
            System.arraycopy(other.statedRows, 0, statedRows, 0, 3 * STATED_LIMIT);
            taleCount = other.taleCount;
            taleLies = other.taleLies;
            taleNoLies = other.taleNoLies;
        }

        /** A new town in place of the one there was. */
        void settle(Town newTown) {
            town.copyFrom(newTown);
            town.told = true;
            life.begin(town);
            statedCount = 0;
            forgetTales();
        }

        void addStated(int person, int fact, int said) {
            if (statedCount < STATED_LIMIT) {
                statedRows[3 * statedCount] = person;
                statedRows[3 * statedCount + 1] = fact;
                statedRows[3 * statedCount + 2] = said;
                statedCount++;
            }
        }

        void forgetTales() {
            taleCount = 0;
            taleLies = 0;
            taleNoLies = 0;
        }

        void addTale(int place, boolean lie) {
            taleCount++;
            if (lie) {
                taleLies |= 1 << place;
            } else {
                taleNoLies |= 1 << place;
            }
        }

        /** Whether places that are lies, of all places there are, fit the tales. */
        boolean fitsTales(int places, int all) {
            boolean toldOfOthers = ((taleLies | taleNoLies) & ~all) != 0;
            return !toldOfOthers && (taleLies & ~places) == 0 && (taleNoLies & places) == 0;
        }
    }

    /** Lives ahead of the last acts, the oldest given up for the newest. */
    private static final class Acts {
        private final Life[] kept = new Life[ACT_LIMIT];
        private int first;
        private int size;

        Acts() {
            for (int i = 0; i < ACT_LIMIT; i++) {
                kept[i] = new Life();
            }
        }

        void forget() {
            first = 0;
            size = 0;
        }

        void keep(Life life) {
            kept[(first + size) % ACT_LIMIT].copyFrom(life);
            if (size < ACT_LIMIT) {
                size++;
            } else {
                first = (first + 1) % ACT_LIMIT;
            }
        }

        void takeBack(Life life) {
            if (size > 0) {
                size--;
                life.copyFrom(kept[(first + size) % ACT_LIMIT]);
            }
        }
    }

    /** The ways that facts can be, by what was stated, and what they have in common. */
    private static final class Truths {
        private int ways;
        private int alwaysSo;
        private int neverSo;
        private int liars;
        private int honest;
        /** In how many ways each fact is so. */
        private final int[] soIn = new int[FACT_LIMIT];

        void weigh(Situation situation) {
            int all = (1 << situation.town.facts) - 1;
            ways = 0;
            alwaysSo = all;
            neverSo = all;
            liars = (1 << PEOPLE_LIMIT) - 1;
            honest = liars;
            Arrays.fill(soIn, 0);
            for (int way = 0; way <= all; way++) {
                weighWay(situation, way);
            }
        }

        private void weighWay(Situation situation, int way) {
            int lying = 0;
            int right = 0;
            for (int i = 0; i < situation.statedCount; i++) {
                int person = 1 << situation.statedRows[3 * i];
                if (bit(way, situation.statedRows[3 * i + 1]) == situation.statedRows[3 * i + 2]) {
                    right |= person;
                } else {
                    lying |= person;
                }
            }
            if ((lying & right) == 0) {
                addWay(way, lying, right);
            }
        }

        private void addWay(int way, int lying, int right) {
            ways++;
            alwaysSo &= way;
            neverSo &= ~way;
            liars &= lying;
            honest &= right;
            for (int fact = 0; fact < FACT_LIMIT; fact++) {
                soIn[fact] += bit(way, fact);
            }
        }

        int mostAgreeing(int fact) {
            return Math.max(soIn[fact], ways - soIn[fact]);
        }
    }
}
