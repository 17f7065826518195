import java.util.Random;

/** Random runs of calls, each answer held against the model's; seeds are fixed, so each run is the same. */
public final class RandomTest {
    private final RiceHall x = new RiceHall();
    private final Model m = new Model();
    private final Random random;
    private final int kind;
    private final String run;

    private RandomTest(int seed) {
        random = new Random(seed);
        kind = seed % 6;
        run = "run " + seed + ": ";
    }

    public static void main(String[] args) {
        int runs = args.length > 0 ? Integer.parseInt(args[0]) : 600;
        for (int seed = 0; seed < runs && Due.allRight(); seed++) {
            new RandomTest(seed).go();
        }
        Due.end();
    }

    private void go() {
        begin();
        for (int i = 0; i < 400; i++) {
            step();
            if (!Due.allRight()) {
                return;
            }
            if (random.nextInt(40) == 0) {
                lookAtAll();
            }
        }
        lookAtAll();
    }

    private void begin() {
        int towns = random.nextInt(kind == 0 ? 11 : 4);
        for (int i = 0; i < towns; i++) {
            is("town()", x.town(), m.town());
        }
        for (int i = 0; i < towns * 2; i++) {
            road();
        }
        int people = kind == 3 ? 16 : 2 + random.nextInt(6);
        for (int i = 0; i < people; i++) {
            person(random.nextInt(towns + 1));
            if (random.nextInt(3) > 0) {
                pay(i, random.nextInt(kind == 4 ? 99999 : 3000));
            }
        }
        for (int i = random.nextInt(4); i > 0; i--) {
            is("store()", x.store(), m.store());
        }
    }

    private void step() {
        int[][] weights = {
            // land, stores, money, rules, session, queries
            {10, 2, 1, 2, 3, 3},
            {1, 12, 1, 2, 2, 3},
            {1, 1, 1, 10, 3, 3},
            {1, 2, 2, 1, 30, 3},
            {0, 1, 2, 1, 60, 2},
            {1, 3, 4, 3, 30, 5},
        };
        int[] w = weights[kind];
        int at = random.nextInt(w[0] + w[1] + w[2] + w[3] + w[4] + w[5]);
        if (at < w[0]) {
            landStep();
        } else if (at < w[0] + w[1]) {
            storeStep();
        } else if (at < w[0] + w[1] + w[2]) {
            moneyStep();
        } else if (at < w[0] + w[1] + w[2] + w[3]) {
            rulesStep();
        } else if (at < w[0] + w[1] + w[2] + w[3] + w[4]) {
            sessionStep();
        } else {
            query();
        }
    }

    private void is(String call, long got, long want) {
        Due.is(run + call, got, want);
    }

    private void is(String call, boolean got, boolean want) {
        Due.is(run + call, got, want);
    }

    /** Mostly a number from 0 up to one below the bound, at times one that lies outside or far outside. */
    private int about(int bound) {
        int luck = random.nextInt(30);
        if (luck == 0) {
            return bound;
        }
        if (luck == 1) {
            return -1 - random.nextInt(2);
        }
        if (luck == 2) {
            int[] far = {Integer.MAX_VALUE, Integer.MIN_VALUE, 1000000, -1000000, bound + 1};
            return far[random.nextInt(far.length)];
        }
        return bound <= 0 ? 0 : random.nextInt(bound);
    }

    private int someone() {
        return about(m.persons.size());
    }

    private int somestore() {
        return about(m.stores.size());
    }

    private void road() {
        int a = about(m.towns);
        int b = about(m.towns);
        int f = random.nextInt(3) == 0 ? 0 : about(random.nextBoolean() ? 20 : 201);
        int w = about(random.nextBoolean() ? 300 : 2001);
        is("road(" + a + ", " + b + ", " + f + ", " + w + ")", x.road(a, b, f, w), m.road(a, b, f, w));
    }

    private void person(int town) {
        is("person(" + town + ")", x.person(town), m.person(town));
    }

    private void pay(int p, int c) {
        is("pay(" + p + ", " + c + ")", x.pay(p, c), m.pay(p, c));
    }

    private int minute() {
        return random.nextInt(3) == 0 ? about(57601) : random.nextInt(3000);
    }

    private void landStep() {
        int luck = random.nextInt(10);
        if (luck == 0) {
            is("town()", x.town(), m.town());
        } else if (luck < 3) {
            int t = about(m.towns);
            int from = random.nextInt(4) == 0 ? -1 : about(1440);
            int to = about(1440);
            is("fog(" + t + ", " + from + ", " + to + ")", x.fog(t, from, to), m.fog(t, from, to));
        } else if (luck == 3) {
            road();
        } else if (luck < 7) {
            int a = about(m.towns);
            int b = about(m.towns);
            int at = minute();
            is("news(" + a + ", " + b + ", " + at + ")", x.news(a, b, at), m.news(a, b, at));
        } else if (luck < 9) {
            int a = about(m.towns);
            int at = minute();
            int k = about(m.persons.size());
            is("hears(" + a + ", " + at + ", " + k + ")", x.hears(a, at, k), m.hears(a, at, k));
        } else {
            person(about(m.towns));
        }
    }

    private void storeStep() {
        int s = somestore();
        int p = someone();
        int luck = random.nextInt(12);
        if (luck == 0) {
            is("store()", x.store(), m.store());
        } else if (luck < 4) {
            int n = about(random.nextBoolean() ? 40 : 501);
            int late = about(random.nextBoolean() ? 20 : 2001);
            is("issue(" + s + ", " + p + ", " + n + ", " + late + ")", x.issue(s, p, n, late), m.issue(s, p, n, late));
        } else if (luck < 6) {
            int q = someone();
            int n = about(30);
            is("give(" + p + ", " + q + ", " + s + ", " + n + ")", x.give(p, q, s, n), m.give(p, q, s, n));
        } else if (luck < 8) {
            int n = about(30);
            is("call(" + p + ", " + s + ", " + n + ")", x.call(p, s, n), m.call(p, s, n));
        } else if (luck < 10) {
            int n = about(random.nextInt(3) == 0 ? 10000 : 60);
            is("come(" + s + ", " + n + ")", x.come(s, n), m.come(s, n));
        } else if (luck == 10) {
            int n = about(101);
            is("spoil(" + s + ", " + n + ")", x.spoil(s, n), m.spoil(s, n));
        } else {
            pass(about(random.nextInt(4) == 0 ? 3001 : 100));
        }
    }

    private void moneyStep() {
        int p = someone();
        int c = about(random.nextInt(3) == 0 ? 100000 : 500);
        int luck = random.nextInt(4);
        if (luck == 0) {
            pay(p, c);
        } else if (luck == 1) {
            is("draw(" + p + ", " + c + ")", x.draw(p, c), m.draw(p, c));
        } else {
            int q = someone();
            is("owe(" + p + ", " + q + ", " + c + ")", x.owe(p, q, c), m.owe(p, q, c));
        }
    }

    private void rulesStep() {
        String text = RandomText.of(random);
        for (int at = 0; at < text.length(); at += 20) {
            int[] w = new int[5];
            for (int i = 0; i < 5; i++) {
                w[i] = Due.word(text, at + 4 * i);
            }
            is("feed of " + text, x.feed(w[0], w[1], w[2], w[3], w[4]), m.feed(w[0], w[1], w[2], w[3], w[4]));
        }
        if (random.nextInt(20) == 0) {
            return;
        }
        int town = random.nextInt(3) == 0 ? about(m.towns) : 0;
        int n = random.nextInt(12) == 0 ? about(m.tape.length() + 1) : Math.min(text.length(), m.tape.length());
        is("rules(" + town + ", " + n + ") of " + text, x.rules(town, n), m.rules(town, n));
        is("fault() of " + text, x.fault(), m.fault());
        for (int what = -1; what < 13; what++) {
            is("rule(" + what + ")", x.rule(what), m.rule(what));
        }
    }

    private void pass(int n) {
        is("pass(" + n + ")", x.pass(n), m.pass(n));
    }

    private int leftMinutes() {
        int burn = m.ask("burn") + m.ask("gust") * m.wind;
        return Math.min(3000, (m.on.fuse + burn - 1) / burn);
    }

    private void sessionStep() {
        int luck = random.nextInt(20);
        if (m.on == null) {
            if (luck < 3) {
                pass(about(random.nextInt(4) == 0 ? 1500 : 30));
            } else {
                is("light()", x.light(), m.light());
                if (m.on != null && random.nextInt(4) > 0 && leftMinutes() > 5) {
                    pass(leftMinutes() - 1 - random.nextInt(5));
                }
            }
        } else if (luck < 12) {
            cry();
        } else if (luck < 13) {
            int c = about(m.on.cries.size());
            is("back(" + c + ")", x.back(c), m.back(c));
        } else if (luck < 17) {
            bookStep();
        } else if (luck < 18) {
            int w = about(random.nextInt(4) == 0 ? 10 : 3);
            is("wind(" + w + ")", x.wind(w), m.wind(w));
        } else {
            pass(random.nextInt(3) == 0 ? about(100) : Math.max(1, leftMinutes() - random.nextInt(2)));
        }
    }

    private void cry() {
        int p = someone();
        boolean buys = random.nextBoolean();
        int lots = about(random.nextBoolean() ? 51 : 6);
        int price = about(random.nextInt(4) == 0 || kind == 4 ? 10000 : 40);
        is("cry(" + p + ", " + buys + ", " + lots + ", " + price + ")", x.cry(p, buys, lots, price),
                m.cry(p, buys, lots, price));
    }

    private void bookStep() {
        int b = about(m.on.deals.size());
        boolean side = random.nextBoolean();
        if (random.nextBoolean()) {
            is("deny(" + b + ", " + side + ")", x.deny(b, side), m.deny(b, side));
        } else {
            int lots = about(random.nextBoolean() ? 100 : 4);
            int price = about(random.nextBoolean() ? 10000 : 4);
            is("note(" + b + ", " + side + ", " + lots + ", " + price + ")", x.note(b, side, lots, price),
                    m.note(b, side, lots, price));
        }
    }

    private void query() {
        int k = about(11);
        is("least(" + k + ")", x.least(k), m.least(k));
        int margin = about(random.nextBoolean() ? 100000 : 30);
        is("judged(" + margin + ", " + k + ")", x.judged(margin, k), m.judged(margin, k));
        int s = about(m.sittings.size());
        int floor = about(random.nextBoolean() ? 100000 : 40);
        int ceiling = about(random.nextInt(4) > 0 ? 100000 : 40);
        is("other(" + s + ", " + floor + ", " + ceiling + ")", x.other(s, floor, ceiling), m.other(s, floor, ceiling));
        int known = about(m.now + 2);
        int t = somestore();
        is("over(" + t + ", " + known + ")", x.over(t, known), m.over(t, known));
    }

    private void lookAtAll() {
        for (int what = -2; what < 16; what++) {
            is("count(" + what + ")", x.count(what), m.count(what));
            is("sum(" + what + ")", x.sum(what), m.sum(what));
            is("rule(" + what + ")", x.rule(what), m.rule(what));
            is("best(" + what + ")", x.best(what), m.best(what));
            is("heard(" + what + ")", x.heard(what), m.heard(what));
            is("least(" + what + ")", x.least(what), m.least(what));
        }
        is("what is kept of COINS", x.sum(2), x.sum(0) - x.sum(1));
        for (int p = -2; p <= 16; p++) {
            is("coins(" + p + ")", x.coins(p), m.coins(p));
            for (int what = -1; what < 15; what++) {
                is("told(" + p + ", " + what + ")", x.told(p, what), m.told(p, what));
                is("storeOf(" + p + ", " + what + ")", x.storeOf(p, what), m.storeOf(p, what));
            }
            for (int what = -1; what < 5; what++) {
                is("fails(" + p + ", " + what + ")", x.fails(p, what), m.fails(p, what));
            }
        }
        for (int s = -1; s <= m.sittings.size(); s++) {
            lookAtSession(s);
        }
    }

    private void lookAtSession(int s) {
        for (int what = -1; what < 8; what++) {
            is("session(" + s + ", " + what + ")", x.session(s, what), m.session(s, what));
            for (int b = -1; b <= m.session(s, 4); b++) {
                is("bargain(" + s + ", " + b + ", " + what + ")", x.bargain(s, b, what), m.bargain(s, b, what));
            }
        }
        is("other(" + s + ")", x.other(s, 0, 99999), m.other(s, 0, 99999));
        is("other(" + s + ", 5, 30)", x.other(s, 5, 30), m.other(s, 5, 30));
    }
}
