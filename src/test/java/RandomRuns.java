import java.util.ArrayList;
import java.util.List;
import java.util.Random;

/** Holds DailyLie against the Oracle over runs of calls that are drawn from fixed seeds. */
public final class RandomRuns {
    private static final int RUNS = 1500;
    private static final int CALLS = 500;
    private static final int[] WILD = {Integer.MIN_VALUE, Integer.MIN_VALUE + 1, -65536, -8, -3, -2, 7, 8, 15, 16, 31, 32,
        33, 63, 64, 96, 97, 400, 401, 65536, 1 << 30, Integer.MAX_VALUE - 1, Integer.MAX_VALUE};

    private final Random random;
    private final DailyLie real = new DailyLie();
    private final Oracle due = new Oracle();
    private final List<String> rows = new ArrayList<>();
    private final TextMaker texts;
    private boolean wrong;

    private RandomRuns(long seed) {
        random = new Random(seed);
        texts = new TextMaker(random);
    }

    public static void main(String[] args) {
        int runs = args.length > 0 ? Integer.parseInt(args[0]) : RUNS;
        long first = args.length > 1 ? Long.parseLong(args[1]) : 0;
        int bad = 0;
        for (long seed = first; seed < first + runs && bad < 3; seed++) {
            RandomRuns run = new RandomRuns(seed);
            run.go();
            if (run.wrong) {
                bad++;
                System.out.println("seed " + seed + ":");
                run.rows.forEach(System.out::println);
            }
        }
        System.out.println(bad == 0 ? "random runs: all answers are as due" : "random runs: wrong answers");
        System.exit(bad == 0 ? 0 : 1);
    }

    private void go() {
        if (random.nextInt(8) > 0) {
            giveText(texts.town(), true);
        }
        for (int i = random.nextInt(4); i > 0; i--) {
            giveText(texts.rule(), false);
        }
        while (rows.size() < CALLS && !wrong) {
            int kind = random.nextInt(100);
            if (kind < 2 || real.count(2) == 0 && kind < 20) {
                giveText(texts.town(), true);
            } else if (kind == 2) {
                stateALot();
            } else if (kind < 5) {
                giveText(texts.rule(), false);
            } else if (kind < 8) {
                giveText(texts.spoiled(random.nextBoolean() ? texts.town() : texts.rule()), random.nextBoolean());
            } else if (kind < 60) {
                act();
            } else {
                askSomething();
            }
        }
    }

    private void check(String call, int got, int want) {
        rows.add(call + " = " + got + (got == want ? "" : ", due is " + want));
        wrong |= got != want;
    }

    private void giveText(String text, boolean town) {
        check("end(0)", real.end(0), due.end(0));
        for (int at = 0; at < text.length(); at += 20) {
            int[] n = new int[5];
            for (int i = 0; i < 20; i++) {
                int b = at + i < text.length() ? text.charAt(at + i) : 0;
                n[i / 4] = n[i / 4] << 8 | b;
            }
            check("feed " + text.substring(at, Math.min(at + 20, text.length())),
                    real.feed(n[0], n[1], n[2], n[3], n[4]), due.feed(n));
        }
        check("end(" + text.length() + ")", real.end(text.length()), due.end(text.length()));
        if (town) {
            check("town()", real.town(), due.town());
        } else {
            check("rule()", real.rule(), due.rule());
        }
    }

    /** Mostly a number that is there, now and then one that is not. */
    private int some(int n) {
        return switch (random.nextInt(40)) {
            case 0 -> -1;
            case 1 -> n;
            case 2 -> random.nextInt();
            case 3 -> WILD[random.nextInt(WILD.length)];
            default -> random.nextInt(Math.max(n, 1));
        };
    }

    private int person() {
        return some(real.count(2));
    }

    private int neighbour(int one) {
        int set = real.person(one, 3);
        if (set <= 0 || random.nextInt(10) == 0) {
            return person();
        }
        int p = random.nextInt(7);
        while ((set >> p & 1) == 0) {
            p = (p + 1) % 7;
        }
        return p;
    }

    private int fact() {
        return some(real.count(0));
    }

    private void act() {
        int a = person();
        int b = neighbour(a);
        int f = fact();
        int v = some(2);
        int k = some(4);
        switch (random.nextInt(16)) {
            case 0, 1, 2, 3, 4 -> check("say(" + a + ", " + b + ", " + f + ", " + v + ")",
                    real.say(a, b, f, v), due.say(a, b, f, v));
            case 5, 6 -> check("meet(" + a + ", " + b + ")", real.meet(a, b), due.meet(a, b));
            case 7, 8 -> check("hour()", real.hour(), due.hour());
            case 9 -> check("midnight()", real.midnight(), due.midnight());
            case 10, 11 -> check("undo()", real.undo(), due.undo());
            case 12 -> runByRule();
            case 13 -> check("image(" + k + ")", real.image(k), due.image(k));
            case 14 -> check("back(" + k + ")", real.back(k), due.back(k));
            default -> {
                int c = random.nextInt(8) - 1;
                check("charter(" + c + ")", real.charter(c), due.charter(c));
            }
        }
    }

    private void runByRule() {
        int rule = some(real.count(4));
        int n = random.nextInt(4) == 0 ? some(98) : 1 + random.nextInt(9);
        check("run(" + rule + ", " + n + ")", real.run(rule, n), due.run(rule, n));
    }

    private void stateALot() {
        for (int i = random.nextInt(14); i > 0; i--) {
            int a = person();
            int f = fact();
            int v = some(2);
            check("stated(" + a + ", " + f + ", " + v + ")", real.stated(a, f, v), due.stated(a, f, v));
        }
        for (int what = 0; what < 5; what++) {
            check("truths(" + what + ")", real.truths(what), due.truths(what));
        }
        for (int what = 0; what < 2; what++) {
            check("ask(" + what + ")", real.ask(what), due.ask(what));
        }
    }

    private void askSomething() {
        int a = person();
        int b = neighbour(a);
        int f = fact();
        int v = some(2);
        int w = some(3);
        int u = some(5);
        switch (random.nextInt(19)) {
            case 0 -> check("holds(" + a + ", " + f + ", " + w + ")", real.holds(a, f, w), due.holds(a, f, w));
            case 1 -> check("person(" + a + ", " + u + ")", real.person(a, u), due.person(a, u));
            case 2 -> check("trust(" + a + ", " + b + ")", real.trust(a, b), due.trust(a, b));
            case 3 -> check("would(" + a + ", " + b + ", " + f + ", " + v + ")",
                    real.would(a, b, f, v), due.would(a, b, f, v));
            case 4 -> check("breach(" + v + ")", real.breach(v), due.breach(v));
            case 5 -> check("tellers(" + v + ")", real.tellers(v), due.tellers(v));
            case 6 -> check("leastLie(" + a + ", " + b + ", " + v + ")",
                    real.leastLie(a, b, v), due.leastLie(a, b, v));
            case 7 -> check("evening()", real.evening(), due.evening());
            case 8 -> check("walls(" + a + ", " + b + ", " + v + ")", real.walls(a, b, v), due.walls(a, b, v));
            case 9 -> check("leak(" + a + ", " + b + ")", real.leak(a, b), due.leak(a, b));
            case 10 -> {
                int p = random.nextInt(12) == 0 ? -1 : a;
                check("stated(" + p + ", " + f + ", " + v + ")", real.stated(p, f, v), due.stated(p, f, v));
            }
            case 11 -> check("truths(" + u + ")", real.truths(u), due.truths(u));
            case 12 -> check("ask(" + v + ")", real.ask(v), due.ask(v));
            case 13 -> {
                int p = random.nextInt(7) == 0 ? -1 : some(10);
                boolean lie = random.nextBoolean();
                check("tale(" + p + ", " + lie + ")", real.tale(p, lie), due.tale(p, lie));
            }
            case 14 -> {
                int n = 1 + some(10);
                int k = some(Math.max(1, Math.min(n, 100)) + 1);
                check("schedules(" + n + ", " + k + ", " + v + ")", real.schedules(n, k, v), due.schedules(n, k, v));
            }
            case 15 -> {
                int x = random.nextInt(5) == 0 ? random.nextInt() : random.nextInt(100);
                check("seed(" + x + ")", real.seed(x), due.seed(x));
            }
            case 16 -> {
                int m = 1 + some(random.nextInt(4) == 0 ? 11 : 3);
                int n = 1 + some(random.nextInt(4) == 0 ? 21 : 3);
                check("years(" + m + ", " + n + ", " + w + ")", real.years(m, n, w), due.years(m, n, w));
            }
            case 17 -> {
                int n = random.nextInt(10) == 0 ? some(400) : 0;
                check("end(" + n + ")", real.end(n), due.end(n));
            }
            default -> {
                int c = some(15);
                check("count(" + c + ")", real.count(c), due.count(c));
            }
        }
    }
}
