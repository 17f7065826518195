import java.util.Arrays;

/** A hall in which rice is sold by paper and forward; ../shared/DOC.md says what each call answers. */
public final class RiceHall {
    public static final int NONE = -1;

    private static final int LAST_MINUTE = 57600;
    private static final int DAY = 1440;
    private static final int MAX_PASS = 3000;
    private static final int MAX_TOWNS = 10;
    private static final int MAX_FLAGS = 200;
    private static final int MAX_WALK = 2000;
    private static final int MAX_PERSONS = 16;
    private static final int MAX_STORES = 4;
    private static final int MAX_ISSUES = 60;
    private static final int MAX_ISSUE = 500;
    private static final int MAX_LATE = 2000;
    private static final int MAX_WAITS = 60;
    private static final int MAX_COME = 9999;
    private static final int LONG_WAIT = 2880;
    private static final int MAX_RULES = 8;
    private static final int MAX_STATEMENTS = 24;
    private static final int MAX_TAPE = 500;
    private static final int MAX_WIND = 9;
    private static final int MAX_SESSIONS = 24;
    private static final int MAX_CRIES = 60;
    private static final int MAX_LOTS = 50;
    private static final int MAX_NOTED = 99;
    private static final int MAX_PRICE = 9999;
    private static final int MAX_BEHIND = 10;
    private static final int MOST = 99999;
    private static final long MOST_NEED = 2000000000L;
    private static final int NO_SUCH = -100000000;
    private static final long NO_COINS = -1000000000000L;

    private static final int FLOOR = 0;
    private static final int CEILING = 1;
    private static final int MARGIN = 2;
    private static final int FUSE = 3;
    private static final int BURN = 4;
    private static final int GUST = 5;
    private static final int GAP = 6;
    private static final int GRACE = 7;
    private static final int SETTLE = 8;
    private static final int SPOIL = 9;
    private static final int HALT = 10;
    private static final int IN_FORCE = 11;

    private final Land land;
    private final Person[] persons;
    private int personCount;
    private final Store[] stores;
    private int storeCount;
    private int issueCount;
    private int waitCount;
    private final byte[] tape;
    private int tapeLength;
    private final Law law;
    private final House house;
    private final Ruin ruin;
    private final Session[] sessions;
    private int sessionCount;
    private Session lit;
    private final int[] standingAgain;
    private int now;
    private int windNow;

    public RiceHall() {
        land = new Land();
        persons = new Person[MAX_PERSONS];
        stores = new Store[MAX_STORES];
        tape = new byte[MAX_TAPE];
        law = new Law();
        house = new House();
        ruin = new Ruin();
        sessions = new Session[MAX_SESSIONS];
        standingAgain = new int[MAX_CRIES];
    }

    public int town() {
        return land.addTown();
    }

    public boolean fog(int town, int from, int to) {
        return land.setFog(town, from, to);
    }

    public boolean road(int a, int b, int flags, int walk) {
        return land.setRoad(a, b, flags, walk);
    }

    public int news(int from, int to, int minute) {
        if (!land.has(from) || !land.has(to) || !isWithin(minute, 0, LAST_MINUTE)) {
            return NONE;
        }
        land.spread(from, minute);
        return land.minuteIn(to);
    }

    public int person(int town) {
        if (!land.has(town) || personCount >= MAX_PERSONS) {
            return NONE;
        }
        persons[personCount] = new Person(town);
        personCount++;
        return personCount - 1;
    }

    public int hears(int from, int minute, int k) {
        if (!land.has(from) || !isWithin(minute, 0, LAST_MINUTE) || !isWithin(k, 0, personCount - 1)) {
            return NONE;
        }
        land.spread(from, minute);
        for (int p = 0; p < personCount; p++) {
            if (minuteHeard(p) != NONE && heardAhead(p) == k) {
                return p;
            }
        }
        return NONE;
    }

    public int store() {
        if (storeCount >= MAX_STORES) {
            return NONE;
        }
        stores[storeCount] = new Store();
        storeCount++;
        return storeCount - 1;
    }

    public int issue(int store, int person, int n, int late) {
        if (!isStore(store) || !isPerson(person) || !isWithin(n, 1, MAX_ISSUE)
                || !isWithin(late, 0, MAX_LATE) || issueCount >= MAX_ISSUES) {
            return NONE;
        }
        issueCount++;
        persons[person].paper[store] += n;
        stores[store].addIssue(n, now + late);
        return stores[store].out();
    }

    public boolean give(int from, int to, int store, int n) {
        if (!isPerson(to) || !holdsPaper(from, store, n)) {
            return false;
        }
        persons[from].paper[store] -= n;
        persons[to].paper[store] += n;
        return true;
    }

    public int call(int person, int store, int n) {
        if (!holdsPaper(person, store, n) || waitCount >= MAX_WAITS) {
            return NONE;
        }
        waitCount++;
        persons[person].paper[store] -= n;
        stores[store].addWait(person, n, now);
        return stores[store].serve(persons);
    }

    public int come(int store, int bales) {
        if (!isStore(store) || !isWithin(bales, 1, MAX_COME) || stores[store].rice + bales > MOST) {
            return NONE;
        }
        stores[store].rice += bales;
        return stores[store].serve(persons);
    }

    public int spoil(int store, int p) {
        if (!isStore(store) || !isWithin(p, 0, 100)) {
            return NONE;
        }
        boolean holders = askLaw(SPOIL) == 1;
        int rice = stores[store].spoilRice(p);
        if (holders) {
            spoilPaper(store, p);
        }
        return rice;
    }

    public int over(int store, int known) {
        if (!isStore(store) || !isWithin(known, 0, now)) {
            return NONE;
        }
        return stores[store].overAsKnown(known);
    }

    public int storeOf(int store, int what) {
        if (!isStore(store)) {
            return NONE;
        }
        Store s = stores[store];
        switch (what) {
            case 0:
                return s.rice;
            case 1:
                return s.out();
            case 2:
                return s.waiting;
            case 3:
                return s.served;
            case 4:
                return s.spoiledRice;
            case 5:
                return s.cannot(now) ? 1 : 0;
            case 6:
                return s.firstWaiter();
            case 7:
                return s.share();
            default:
                return NONE;
        }
    }

    public int told(int person, int what) {
        if (!isPerson(person)) {
            return NO_SUCH;
        }
        Person p = persons[person];
        switch (what) {
            case 0:
                return p.town;
            case 1:
                return p.position;
            case 2:
                return p.bales;
            case 3:
                return p.calledFrom;
            case 4:
                return p.closedOut;
            case 5:
                return p.failed;
            case 6:
                return (int) Math.min(p.need(askLaw(MARGIN)), MOST_NEED);
            default:
                return isWithin(what, 10, 9 + storeCount) ? p.paper[what - 10] : NO_SUCH;
        }
    }

    public long coins(int person) {
        if (person == NONE) {
            return house.fund;
        }
        return isPerson(person) ? persons[person].coins : NO_COINS;
    }

    public boolean pay(int person, int coins) {
        if (!isPerson(person) || !isWithin(coins, 1, MOST)) {
            return false;
        }
        persons[person].coins += coins;
        house.paid += coins;
        return true;
    }

    public boolean draw(int person, int coins) {
        if (!isPerson(person) || !isWithin(coins, 1, MOST)) {
            return false;
        }
        Person p = persons[person];
        if (p.coins - coins < p.need(askLaw(MARGIN))) {
            return false;
        }
        p.coins -= coins;
        house.drawn += coins;
        return true;
    }

    public int feed(int a, int b, int c, int d, int e) {
        if (tapeLength + 20 > MAX_TAPE) {
            return NONE;
        }
        addBytes(a);
        addBytes(b);
        addBytes(c);
        addBytes(d);
        addBytes(e);
        return tapeLength;
    }

    public int rules(int town, int n) {
        if (!land.has(town) || !isWithin(n, 0, tapeLength)) {
            return -2;
        }
        if (law.isFull()) {
            return -3;
        }
        tapeLength = 0;
        if (!law.read(tape, n)) {
            return NONE;
        }
        land.spread(town, now);
        int minute = land.minuteIn(0);
        if (minute == NONE || minute > LAST_MINUTE) {
            return -4;
        }
        return law.keep(minute);
    }

    public int fault() {
        return law.latestFault;
    }

    public int rule(int what) {
        if (what == IN_FORCE) {
            return law.inForce(now);
        }
        return isWithin(what, FLOOR, HALT) ? askLaw(what) : NONE;
    }

    public int heard(int rules) {
        return law.minuteOf(rules);
    }

    public boolean wind(int w) {
        if (!isWithin(w, 0, MAX_WIND)) {
            return false;
        }
        windNow = w;
        return true;
    }

    public int light() {
        if (lit != null || sessionCount >= MAX_SESSIONS) {
            return NONE;
        }
        lit = new Session(now, askLaw(FUSE));
        sessions[sessionCount] = lit;
        sessionCount++;
        return sessionCount - 1;
    }

    public int cry(int person, boolean buys, int lots, int price) {
        if (lit == null || !isPerson(person) || !isWithin(lots, 1, MAX_LOTS)
                || !isWithin(price, 1, MAX_PRICE) || lit.cryCount >= MAX_CRIES) {
            return NONE;
        }
        if (askLaw(HALT) == 1) {
            return -2;
        }
        if (persons[person].calledFrom != NONE) {
            return -4;
        }
        int number = lit.addCry(new Cry(person, buys, lots, price, now));
        if (!isWithin(price, askLaw(FLOOR), askLaw(CEILING))) {
            return -3;
        }
        lit.meet(number);
        return number;
    }

    public int back(int cry) {
        return lit == null ? NONE : lit.takeBack(cry);
    }

    public boolean note(int bargain, boolean buyer, int lots, int price) {
        if (lit == null || !lit.hasBargain(bargain) || !isWithin(lots, 1, MAX_NOTED)
                || !isWithin(price, 1, MAX_PRICE)) {
            return false;
        }
        lit.bargains[bargain].write(buyer, lots, price);
        return true;
    }

    public boolean deny(int bargain, boolean buyer) {
        if (lit == null || !lit.hasBargain(bargain)) {
            return false;
        }
        return lit.bargains[bargain].denyBy(buyer);
    }

    public int pass(int n) {
        if (!isWithin(n, 1, MAX_PASS) || now + n > LAST_MINUTE) {
            return NONE;
        }
        int end = now + n;
        lookAround();
        for (int minute = 0; minute < n && lit != null; minute++) {
            burnOneMinute();
            if (lit.fuse <= 0) {
                endSession();
            }
        }
        now = end;
        return now;
    }

    public int session(int session, int what) {
        if (!isSession(session)) {
            return NONE;
        }
        Session s = sessions[session];
        switch (what) {
            case 0:
                return s.litAt;
            case 1:
                return s.endedAt;
            case 2:
                return s.close;
            case 3:
                return s.cryCount;
            case 4:
                return s.bargainCount;
            case 5:
                return s.stood;
            case 6:
                return s.fuse;
            default:
                return NONE;
        }
    }

    public int bargain(int session, int bargain, int what) {
        if (!isSession(session) || !sessions[session].hasBargain(bargain)) {
            return NONE;
        }
        Bargain b = sessions[session].bargains[bargain];
        switch (what) {
            case 0:
                return b.buyer;
            case 1:
                return b.seller;
            case 2:
                return b.lots;
            case 3:
                return b.price;
            case 4:
                return b.minute;
            case 5:
                return b.stoodLots;
            case 6:
                return b.stoodPrice;
            case 7:
                return b.isDenied() ? 1 : 0;
            default:
                return NONE;
        }
    }

    public int best(int what) {
        if (lit == null || !isWithin(what, 0, 3)) {
            return NONE;
        }
        boolean buys = what < 2;
        int price = lit.bestPrice(buys);
        if (price == NONE || what == 0 || what == 2) {
            return price;
        }
        return lit.lotsAt(buys, price);
    }

    public boolean owe(int from, int to, int coins) {
        if (!isPerson(from) || !isPerson(to) || from == to || !isWithin(coins, 0, MOST)) {
            return false;
        }
        persons[from].owes[to] = coins;
        return true;
    }

    public int fails(int person, int what) {
        if (!isPerson(person) || !isWithin(what, 0, 3)) {
            return NONE;
        }
        ruin.reckon(persons, personCount, stores, storeCount, house.latestClose());
        switch (what) {
            case 0:
                return ruin.round[person];
            case 1:
                return ruin.parts[person];
            case 2:
                return ruin.failed;
            default:
                return ruin.rounds;
        }
    }

    public int other(int session, int floor, int ceiling) {
        if (!isSession(session) || sessions[session].endedAt == NONE
                || !isWithin(floor, 0, MOST) || !isWithin(ceiling, 0, MOST)) {
            return NONE;
        }
        return sessions[session].otherClose(floor, ceiling, standingAgain);
    }

    public int least(int k) {
        if (!isWithin(k, 1, MAX_BEHIND) || house.closeCount < 2) {
            return NONE;
        }
        int greatest = 0;
        for (int c = 0; c < house.closeCount; c++) {
            greatest = Math.max(greatest, house.widest(c, k));
        }
        return greatest;
    }

    public int judged(int margin, int k) {
        if (!isWithin(margin, 0, MOST) || !isWithin(k, 1, MAX_BEHIND)) {
            return NONE;
        }
        int wider = 0;
        for (int c = 0; c < house.closeCount; c++) {
            if (house.widest(c, k) > margin) {
                wider++;
            }
        }
        return wider;
    }

    public int count(int what) {
        switch (what) {
            case 0:
                return now;
            case 1:
                return land.towns;
            case 2:
                return personCount;
            case 3:
                return storeCount;
            case 4:
                return sessionCount;
            case 5:
                return house.closeCount;
            case 6:
                return house.latestClose();
            case 7:
                return windNow;
            case 8:
                return house.position;
            case 9:
                return law.edictCount;
            case 10:
                return issueCount;
            case 11:
                return waitCount;
            case 12:
                return tapeLength;
            case 13:
                return lit != null ? 1 : 0;
            default:
                return NO_SUCH;
        }
    }

    public long sum(int what) {
        switch (what) {
            case 0:
                return house.paid;
            case 1:
                return house.drawn;
            case 2:
                return house.allCoins(persons, personCount);
            default:
                return NONE;
        }
    }

    private static boolean isWithin(int value, int least, int greatest) {
        return value >= least && value <= greatest;
    }

    private boolean isPerson(int person) {
        return person >= 0 && person < personCount;
    }

    private boolean isStore(int store) {
        return store >= 0 && store < storeCount;
    }

    private boolean isSession(int session) {
        return session >= 0 && session < sessionCount;
    }

    private boolean holdsPaper(int person, int store, int n) {
        return isPerson(person) && isStore(store) && n >= 1 && n <= persons[person].paper[store];
    }

    private int minuteHeard(int person) {
        return land.minuteIn(persons[person].town);
    }

    private int heardAhead(int person) {
        int minute = minuteHeard(person);
        int ahead = 0;
        for (int p = 0; p < personCount; p++) {
            int other = minuteHeard(p);
            if (other != NONE && (other < minute || other == minute && p < person)) {
                ahead++;
            }
        }
        return ahead;
    }

    private void spoilPaper(int store, int p) {
        for (int i = 0; i < personCount; i++) {
            int spoiled = persons[i].paper[store] * p / 100;
            persons[i].paper[store] -= spoiled;
            stores[store].held -= spoiled;
            stores[store].spoiledPaper += spoiled;
        }
    }

    private void addBytes(int number) {
        for (int shift = 24; shift >= 0 && tapeLength < MAX_TAPE; shift -= 8) {
            tape[tapeLength] = (byte) (number >> shift);
            tapeLength++;
        }
    }

    private int askLaw(int word) {
        lookAround();
        return law.ask(word, now);
    }

    private void lookAround() {
        int rice = 0;
        int out = 0;
        for (int s = 0; s < storeCount; s++) {
            rice += stores[s].rice;
            out += stores[s].out();
        }
        law.lookAtClock(now, windNow);
        law.lookAtMarket(house.latestClose(), house.closeCount, rice, out);
    }

    // While minutes go by only the clock changes, so the rest isn't looked at for each of them.
    private void burnOneMinute() {
        law.lookAtClock(now, windNow);
        int shorter = law.ask(BURN, now);
        if (windNow > 0) {
            shorter += law.ask(GUST, now) * windNow;
        }
        now++;
        lit.fuse -= shorter;
    }

    private void endSession() {
        Session ended = lit;
        lit = null;
        ended.end(now, askLaw(GAP));
        if (ended.close == NONE) {
            return;
        }
        house.mark(persons, personCount, ended.close);
        house.enter(persons, ended);
        house.addClose(ended.close);
        house.callMargins(persons, personCount, askLaw(MARGIN), askLaw(GRACE), now);
        house.partTheLack(persons, personCount);
        house.settleAt(persons, personCount, askLaw(SETTLE));
    }

    /** Towns, their fogs, and the roads by which news goes. */
    private static final class Land {
        private static final int NEVER = 2147483647;
        private static final int FIRST_LIGHT = 360;
        private static final int LAST_LIGHT = 1079;
        private static final int FLAG_WAIT = 2880;

        final int[] fogFrom;
        final int[] fogTo;
        final int[] flagMinutes;
        final int[] walkMinutes;
        final int[] reached;
        final boolean[] passedOn;
        int towns;

        Land() {
            fogFrom = new int[MAX_TOWNS];
            fogTo = new int[MAX_TOWNS];
            flagMinutes = new int[MAX_TOWNS * MAX_TOWNS];
            walkMinutes = new int[MAX_TOWNS * MAX_TOWNS];
            reached = new int[MAX_TOWNS];
            passedOn = new boolean[MAX_TOWNS];
            towns = 1;
            Arrays.fill(fogFrom, NONE);
        }

        boolean has(int town) {
            return town >= 0 && town < towns;
        }

        int addTown() {
            if (towns >= MAX_TOWNS) {
                return NONE;
            }
            towns++;
            return towns - 1;
        }

        boolean setFog(int town, int from, int to) {
            if (!has(town)) {
                return false;
            }
            if (from == NONE) {
                fogFrom[town] = NONE;
                return true;
            }
            if (!isWithin(from, 0, DAY - 1) || !isWithin(to, 0, DAY - 1)) {
                return false;
            }
            fogFrom[town] = from;
            fogTo[town] = to;
            return true;
        }

        boolean setRoad(int a, int b, int flags, int walk) {
            if (!has(a) || !has(b) || a == b || !isWithin(flags, 0, MAX_FLAGS) || !isWithin(walk, 1, MAX_WALK)) {
                return false;
            }
            flagMinutes[a * MAX_TOWNS + b] = flags;
            flagMinutes[b * MAX_TOWNS + a] = flags;
            walkMinutes[a * MAX_TOWNS + b] = walk;
            walkMinutes[b * MAX_TOWNS + a] = walk;
            return true;
        }

        // Who hears earlier never passes it on later, so the earliest town is always settled.
        void spread(int from, int minute) {
            for (int t = 0; t < MAX_TOWNS; t++) {
                reached[t] = NEVER;
                passedOn[t] = false;
            }
            if (!has(from)) {
                return;
            }
            reached[from] = minute;
            for (int i = 0; i < towns; i++) {
                int town = earliestToPassOn();
                if (town == NONE) {
                    return;
                }
                passOn(town);
            }
        }

        int minuteIn(int town) {
            return has(town) && reached[town] != NEVER ? reached[town] : NONE;
        }

        private int earliestToPassOn() {
            int earliest = NONE;
            for (int t = 0; t < towns; t++) {
                if (!passedOn[t] && reached[t] != NEVER && (earliest == NONE || reached[t] < reached[earliest])) {
                    earliest = t;
                }
            }
            return earliest;
        }

        private void passOn(int town) {
            passedOn[town] = true;
            for (int t = 0; t < towns; t++) {
                if (walkMinutes[town * MAX_TOWNS + t] > 0 && !passedOn[t]) {
                    reached[t] = Math.min(reached[t], arrival(town, t));
                }
            }
        }

        private int arrival(int from, int to) {
            int road = from * MAX_TOWNS + to;
            int start = reached[from];
            int onFoot = start + walkMinutes[road];
            if (flagMinutes[road] == 0) {
                return onFoot;
            }
            int seen = flagsSeen(from, to, start);
            return seen == NEVER ? onFoot : Math.min(onFoot, seen + flagMinutes[road]);
        }

        private int flagsSeen(int a, int b, int start) {
            int minute = start;
            for (int i = 0; i < FLAG_WAIT && minute < start + FLAG_WAIT; i++) {
                int clear = pastFog(b, pastFog(a, pastNight(minute)));
                if (clear == minute) {
                    return minute;
                }
                minute = clear;
            }
            return NEVER;
        }

        private static int pastNight(int minute) {
            int hour = minute % DAY;
            if (hour < FIRST_LIGHT) {
                return minute + FIRST_LIGHT - hour;
            }
            return hour > LAST_LIGHT ? minute + DAY + FIRST_LIGHT - hour : minute;
        }

        private int pastFog(int town, int minute) {
            int from = fogFrom[town];
            if (from == NONE) {
                return minute;
            }
            // Both are counted from the fog's first hour, so midnight makes no difference.
            int length = (fogTo[town] - from + DAY) % DAY;
            int sinceFog = (minute % DAY - from + DAY) % DAY;
            return sinceFog <= length ? minute + length - sinceFog + 1 : minute;
        }
    }

    private static final class Person {
        final int town;
        final int[] paper;
        final int[] owes;
        long coins;
        int position;
        int bales;
        int calledFrom;
        int closedOut;
        int failed;

        Person(int inTown) {
            town = inTown;
            paper = new int[MAX_STORES];
            owes = new int[MAX_PERSONS];
            calledFrom = NONE;
        }

        long need(int margin) {
            return (long) margin * Math.abs(position);
        }
    }

    /** A store: its rice, its paper and the queue of paper that was called. */
    private static final class Store {
        final int[] issued;
        final int[] knownFrom;
        int issues;
        final int[] waiter;
        final int[] waitLeft;
        final int[] waitFrom;
        int firstWait;
        int waits;
        int rice;
        int held;
        int waiting;
        int served;
        int spoiledRice;
        int spoiledPaper;

        Store() {
            issued = new int[MAX_ISSUES];
            knownFrom = new int[MAX_ISSUES];
            waiter = new int[MAX_WAITS];
            waitLeft = new int[MAX_WAITS];
            waitFrom = new int[MAX_WAITS];
        }

        int out() {
            return held + waiting;
        }

        void addIssue(int n, int known) {
            if (issues < MAX_ISSUES) {
                issued[issues] = n;
                knownFrom[issues] = known;
                issues++;
                held += n;
            }
        }

        void addWait(int person, int n, int minute) {
            if (waits < MAX_WAITS) {
                waiter[waits] = person;
                waitLeft[waits] = n;
                waitFrom[waits] = minute;
                waits++;
                held -= n;
                waiting += n;
            }
        }

        int serve(Person[] persons) {
            int before = rice;
            for (int w = firstWait; w < waits && rice > 0; w++) {
                int n = Math.min(rice, waitLeft[w]);
                rice -= n;
                waiting -= n;
                served += n;
                waitLeft[w] -= n;
                persons[waiter[w]].bales += n;
                if (waitLeft[w] == 0) {
                    firstWait = w + 1;
                }
            }
            return before - rice;
        }

        int spoilRice(int p) {
            int spoiled = rice * p / 100;
            rice -= spoiled;
            spoiledRice += spoiled;
            return spoiled;
        }

        int overAsKnown(int minute) {
            int known = 0;
            for (int i = 0; i < issues; i++) {
                if (knownFrom[i] <= minute) {
                    known += issued[i];
                }
            }
            return Math.max(0, known - served - spoiledPaper - rice);
        }

        boolean cannot(int minute) {
            return firstWait < waits && minute - waitFrom[firstWait] >= LONG_WAIT;
        }

        int firstWaiter() {
            return firstWait < waits ? waiter[firstWait] : NONE;
        }

        int share() {
            int out = out();
            return out <= 0 ? 100 : Math.min(100, rice * 100 / out);
        }
    }

    /** All rules that were told, and what they look at when they are asked. */
    private static final class Law {
        private static final int[] UNTOLD = {0, 99999, 10, 600, 10, 1, 10, 1440, 4, 0, 0};

        final Scribe scribe;
        final Edict[] edicts;
        final int[] facts;
        int edictCount;
        int latestFault;

        Law() {
            scribe = new Scribe();
            edicts = new Edict[MAX_RULES];
            facts = new int[7];
            latestFault = NONE;
        }

        boolean isFull() {
            return edictCount >= MAX_RULES;
        }

        boolean read(byte[] text, int length) {
            latestFault = NONE;
            scribe.begin(text, length);
            for (int i = 0; i <= MAX_STATEMENTS && !scribe.isAtEnd(); i++) {
                if (!scribe.readStatement()) {
                    latestFault = scribe.placeReached();
                    return false;
                }
            }
            return true;
        }

        int keep(int minute) {
            if (isFull()) {
                return NONE;
            }
            edicts[edictCount] = new Edict(scribe, minute);
            edictCount++;
            return edictCount - 1;
        }

        int minuteOf(int edict) {
            return edict >= 0 && edict < edictCount ? edicts[edict].minute : NONE;
        }

        int inForce(int minute) {
            int latest = NONE;
            for (int e = 0; e < edictCount; e++) {
                if (edicts[e].minute <= minute && (latest == NONE || edicts[e].minute >= edicts[latest].minute)) {
                    latest = e;
                }
            }
            return latest;
        }

        void lookAtClock(int minute, int wind) {
            facts[0] = minute / DAY;
            facts[1] = minute % DAY;
            facts[2] = wind;
        }

        void lookAtMarket(int close, int closes, int rice, int out) {
            facts[3] = close;
            facts[4] = closes;
            facts[5] = rice;
            facts[6] = out;
        }

        int ask(int word, int minute) {
            int edict = inForce(minute);
            int statement = edict == NONE ? NONE : edicts[edict].lastThatHolds(word, facts);
            if (statement != NONE) {
                return edicts[edict].values[statement];
            }
            return word >= 0 && word < UNTOLD.length ? UNTOLD[word] : NONE;
        }
    }

    /** Rules as they were read: statements, and their conditions as one row in postfix order. */
    private static final class Edict {
        final int minute;
        final int[] words;
        final int[] values;
        final int[] conditionEnds;
        final int[] code;

        Edict(Scribe read, int heardAt) {
            minute = heardAt;
            words = Arrays.copyOf(read.words, read.statements);
            values = Arrays.copyOf(read.values, read.statements);
            conditionEnds = Arrays.copyOf(read.conditionEnds, read.statements);
            code = Arrays.copyOf(read.code, read.codeLength);
        }

        int lastThatHolds(int word, int[] facts) {
            for (int s = words.length - 1; s >= 0; s--) {
                if (words[s] == word && holds(s == 0 ? 0 : conditionEnds[s - 1], conditionEnds[s], facts)) {
                    return s;
                }
            }
            return NONE;
        }

        // At most eight stand open, so what waits for its other side fits in the bits of a long.
        private boolean holds(int from, int to, int[] facts) {
            long stack = from == to ? 1 : 0;
            for (int i = from; i < to && i < code.length; i++) {
                int step = code[i];
                if (step >= 0) {
                    stack = stack << 1 | (isFact(step, facts) ? 1 : 0);
                } else if (step == Scribe.NOT_IT) {
                    stack ^= 1;
                } else {
                    long right = stack & 1;
                    long left = stack >>> 1 & 1;
                    long both = step == Scribe.AND_BOTH ? left & right : left | right;
                    stack = stack >>> 2 << 1 | both;
                }
            }
            return (stack & 1) == 1;
        }

        private static boolean isFact(int step, int[] facts) {
            int number = step % Scribe.NUMBERS;
            int sign = step / Scribe.NUMBERS % 3;
            int name = step / Scribe.NUMBERS / 3;
            if (name < 0 || name >= facts.length) {
                return false;
            }
            if (sign == 0) {
                return facts[name] < number;
            }
            return sign == 1 ? facts[name] > number : facts[name] == number;
        }
    }

    /** Reads a text of rules; its rows are used again for each text. */
    private static final class Scribe {
        static final int NUMBERS = 100000;
        static final int AND_BOTH = -1;
        static final int OR_BOTH = -2;
        static final int NOT_IT = -3;

        // A word's kind is its place here: acts as rule() numbers them, names as facts are kept, then the rest.
        private static final String WORDS = "floor ceiling margin fuse burn gust gap grace settle spoil halt day hour wind close sessions rice out store holder if or and not";
        private static final int FIRST_NAME = 11;
        private static final int LAST_NAME = 17;
        private static final int STORE = 18;
        private static final int HOLDER = 19;
        private static final int IF = 20;
        private static final int OR = 21;
        private static final int AND = 22;
        private static final int NOT = 23;
        private static final String SIGNS = "<>=;()";
        private static final int LESS = 24;
        private static final int EQUAL = 26;
        private static final int SEMICOLON = 27;
        private static final int OPEN = 28;
        private static final int CLOSE = 29;
        private static final int NUMBER = 30;
        private static final int END = 31;
        private static final int MAX_OPEN = 8;
        private static final int MAX_DIGITS = 5;

        final int[] words;
        final int[] values;
        final int[] conditionEnds;
        final int[] code;
        int statements;
        int codeLength;
        private final int[] kinds;
        private final int[] places;
        private final int[] numbers;
        private int tokens;
        private int next;

        Scribe() {
            words = new int[MAX_STATEMENTS];
            values = new int[MAX_STATEMENTS];
            conditionEnds = new int[MAX_STATEMENTS];
            code = new int[MAX_TAPE];
            kinds = new int[MAX_TAPE + 1];
            places = new int[MAX_TAPE + 1];
            numbers = new int[MAX_TAPE + 1];
        }

        void begin(byte[] text, int length) {
            statements = 0;
            codeLength = 0;
            tokens = 0;
            next = 0;
            int until = Math.min(length, Math.min(text.length, MAX_TAPE));
            int at = 0;
            while (at < until) {
                int end = tokenEnd(text, at, until);
                if (text[at] != 32 && text[at] != 10) {
                    places[tokens] = at;
                    kinds[tokens] = kindOf(text, at, end);
                    numbers[tokens] = kinds[tokens] == NUMBER ? numberOf(text, at, end) : NONE;
                    tokens++;
                }
                at = Math.max(at + 1, end);
            }
            places[tokens] = until;
            kinds[tokens] = END;
        }

        boolean isAtEnd() {
            return next >= tokens;
        }

        int placeReached() {
            return places[Math.min(next, tokens)];
        }

        private static boolean isLetter(byte b) {
            return b >= 'a' && b <= 'z';
        }

        private static boolean isDigit(byte b) {
            return b >= '0' && b <= '9';
        }

        private static int tokenEnd(byte[] text, int from, int until) {
            int end = from + 1;
            if (isLetter(text[from])) {
                while (end < until && isLetter(text[end])) {
                    end++;
                }
            } else if (isDigit(text[from])) {
                while (end < until && isDigit(text[end])) {
                    end++;
                }
            }
            return end;
        }

        /** NONE: a token (or byte) that no text has. */
        private static int kindOf(byte[] text, int from, int end) {
            if (isLetter(text[from])) {
                return wordOf(text, from, end);
            }
            if (isDigit(text[from])) {
                return end - from <= MAX_DIGITS ? NUMBER : NONE;
            }
            for (int i = 0; i < SIGNS.length(); i++) {
                if (SIGNS.charAt(i) == text[from]) {
                    return LESS + i;
                }
            }
            return NONE;
        }

        private static int wordOf(byte[] text, int from, int end) {
            int word = 0;
            int start = 0;
            for (int i = 0; i <= WORDS.length(); i++) {
                if (i == WORDS.length() || WORDS.charAt(i) == ' ') {
                    if (i - start == end - from && isSame(text, from, end, start)) {
                        return word;
                    }
                    word++;
                    start = i + 1;
                }
            }
            return NONE;
        }

        private static boolean isSame(byte[] text, int from, int end, int start) {
            for (int i = from; i < end; i++) {
                if (WORDS.charAt(start + i - from) != text[i]) {
                    return false;
                }
            }
            return true;
        }

        private static int numberOf(byte[] text, int from, int end) {
            int number = 0;
            for (int i = from; i < end; i++) {
                number = number * 10 + text[i] - '0';
            }
            return number;
        }

        private boolean take(int kind) {
            if (next >= tokens || kinds[next] != kind) {
                return false;
            }
            next++;
            return true;
        }

        /** Takes a token of one of several kinds that lie together; which of them: 0 on, NONE: none. */
        private int takeOf(int first, int last) {
            if (next >= tokens || kinds[next] < first || kinds[next] > last) {
                return NONE;
            }
            next++;
            return kinds[next - 1] - first;
        }

        private int takeNumber(int least) {
            if (next >= tokens || kinds[next] != NUMBER || numbers[next] < least) {
                return NONE;
            }
            next++;
            return numbers[next - 1];
        }

        boolean readStatement() {
            if (statements >= MAX_STATEMENTS) {
                return false;
            }
            if (take(IF) && !readCondition(0)) {
                return false;
            }
            int word = takeOf(FLOOR, HALT);
            if (word == NONE) {
                return false;
            }
            int value = readValue(word);
            if (value == NONE || !take(SEMICOLON)) {
                return false;
            }
            words[statements] = word;
            values[statements] = value;
            conditionEnds[statements] = codeLength;
            statements++;
            return true;
        }

        private int readValue(int word) {
            if (word == HALT) {
                return 1;
            }
            if (word == SPOIL) {
                return takeOf(STORE, HOLDER);
            }
            return takeNumber(word == FUSE || word == BURN || word == SETTLE ? 1 : 0);
        }

        private boolean readCondition(int open) {
            if (!readAll(open)) {
                return false;
            }
            for (int i = 0; i < tokens && take(OR); i++) {
                if (!readAll(open)) {
                    return false;
                }
                put(OR_BOTH);
            }
            return true;
        }

        private boolean readAll(int open) {
            if (!readFact(open)) {
                return false;
            }
            for (int i = 0; i < tokens && take(AND); i++) {
                if (!readFact(open)) {
                    return false;
                }
                put(AND_BOTH);
            }
            return true;
        }

        private boolean readFact(int open) {
            // The ninth is left where it is, since that is where the fault lies.
            if (open < MAX_OPEN && take(NOT)) {
                return readFact(open + 1) && put(NOT_IT);
            }
            if (open < MAX_OPEN && take(OPEN)) {
                return readCondition(open + 1) && take(CLOSE);
            }
            return readComparison();
        }

        private boolean readComparison() {
            int name = takeOf(FIRST_NAME, LAST_NAME);
            if (name == NONE) {
                return false;
            }
            int sign = takeOf(LESS, EQUAL);
            if (sign == NONE) {
                return false;
            }
            int number = takeNumber(0);
            return number != NONE && put((name * 3 + sign) * NUMBERS + number);
        }

        private boolean put(int entry) {
            if (codeLength >= code.length) {
                return false;
            }
            code[codeLength] = entry;
            codeLength++;
            return true;
        }
    }

    /** A cry as it came; what stands of it is the session's, since it may be reckoned anew. */
    private static final class Cry {
        final int person;
        final boolean buys;
        final int lots;
        final int price;
        final int minute;
        int backAhead;

        Cry(int who, boolean wouldBuy, int lotsCried, int priceCried, int criedAt) {
            person = who;
            buys = wouldBuy;
            lots = lotsCried;
            price = priceCried;
            minute = criedAt;
            backAhead = NONE;
        }

        boolean meets(Cry stood) {
            if (buys == stood.buys || person == stood.person) {
                return false;
            }
            return buys ? stood.price <= price : stood.price >= price;
        }

        boolean isBetterThan(Cry earlier) {
            return buys ? price > earlier.price : price < earlier.price;
        }
    }

    private static final class Bargain {
        final int buyer;
        final int seller;
        final int lots;
        final int price;
        final int minute;
        int buyerLots;
        int buyerPrice;
        int sellerLots;
        int sellerPrice;
        boolean buyerDenied;
        boolean sellerDenied;
        boolean buyerDeniedFirst;
        int stoodLots;
        int stoodPrice;

        Bargain(Cry came, Cry stood, int lotsMet) {
            buyer = came.buys ? came.person : stood.person;
            seller = came.buys ? stood.person : came.person;
            lots = lotsMet;
            price = stood.price;
            minute = came.minute;
        }

        void write(boolean byBuyer, int lotsNoted, int priceNoted) {
            if (byBuyer) {
                buyerLots = lotsNoted;
                buyerPrice = priceNoted;
            } else {
                sellerLots = lotsNoted;
                sellerPrice = priceNoted;
            }
        }

        boolean isDenied() {
            return buyerDenied || sellerDenied;
        }

        boolean denyBy(boolean byBuyer) {
            if (byBuyer ? buyerDenied : sellerDenied) {
                return false;
            }
            if (!isDenied()) {
                buyerDeniedFirst = byBuyer;
            }
            if (byBuyer) {
                buyerDenied = true;
            } else {
                sellerDenied = true;
            }
            return true;
        }

        void judge() {
            if (!isDenied()) {
                standAs(lots, price);
            } else if (buyerLots > 0 && sellerLots > 0) {
                // Of two that are alike the lesser and the mean are what both noted.
                standAs(Math.min(buyerLots, sellerLots), (buyerPrice + sellerPrice) / 2);
            } else if (buyerDeniedFirst && buyerLots > 0) {
                standAs(buyerLots, buyerPrice);
            } else if (!buyerDeniedFirst && sellerLots > 0) {
                standAs(sellerLots, sellerPrice);
            }
        }

        private void standAs(int lotsJudged, int priceJudged) {
            stoodLots = lotsJudged;
            stoodPrice = priceJudged;
        }
    }

    private static final class Session {
        final int litAt;
        final Cry[] cries;
        final int[] standing;
        final Bargain[] bargains;
        int cryCount;
        int bargainCount;
        int stood;
        int fuse;
        int endedAt;
        int close;
        int gap;

        Session(int minute, int length) {
            litAt = minute;
            fuse = length;
            cries = new Cry[MAX_CRIES];
            standing = new int[MAX_CRIES];
            // Each bargain uses up a cry, so there are never more of them.
            bargains = new Bargain[MAX_CRIES];
            endedAt = NONE;
            close = NONE;
        }

        boolean hasBargain(int bargain) {
            return bargain >= 0 && bargain < bargainCount;
        }

        int addCry(Cry cry) {
            if (cryCount >= MAX_CRIES) {
                return NONE;
            }
            cries[cryCount] = cry;
            cryCount++;
            return cryCount - 1;
        }

        void meet(int number) {
            if (number < 0 || number >= cryCount) {
                return;
            }
            standing[number] = cries[number].lots;
            for (int i = 0; i < cryCount && standing[number] > 0; i++) {
                int partner = bestPartner(number, standing);
                if (partner == NONE || bargainCount >= MAX_CRIES) {
                    return;
                }
                int lots = strike(number, partner, standing);
                bargains[bargainCount] = new Bargain(cries[number], cries[partner], lots);
                bargainCount++;
            }
        }

        private int bestPartner(int number, int[] stands) {
            int best = NONE;
            for (int c = 0; c < number; c++) {
                if (stands[c] > 0 && cries[number].meets(cries[c])
                        && (best == NONE || cries[c].isBetterThan(cries[best]))) {
                    best = c;
                }
            }
            return best;
        }

        private static int strike(int came, int stood, int[] stands) {
            int lots = Math.min(stands[came], stands[stood]);
            stands[came] -= lots;
            stands[stood] -= lots;
            return lots;
        }

        int takeBack(int number) {
            if (number < 0 || number >= cryCount || standing[number] == 0) {
                return NONE;
            }
            int lots = standing[number];
            standing[number] = 0;
            cries[number].backAhead = cryCount;
            return lots;
        }

        int bestPrice(boolean buys) {
            int best = NONE;
            for (int c = 0; c < cryCount; c++) {
                if (standing[c] > 0 && cries[c].buys == buys
                        && (best == NONE || cries[c].isBetterThan(cries[best]))) {
                    best = c;
                }
            }
            return best == NONE ? NONE : cries[best].price;
        }

        int lotsAt(boolean buys, int price) {
            int lots = 0;
            for (int c = 0; c < cryCount; c++) {
                if (cries[c].buys == buys && cries[c].price == price) {
                    lots += standing[c];
                }
            }
            return lots;
        }

        void end(int minute, int gapTold) {
            endedAt = minute;
            gap = gapTold;
            fuse = 0;
            if (bargainCount == 0 || bargains[bargainCount - 1].minute < minute - gap) {
                return;
            }
            close = bargains[bargainCount - 1].price;
            for (int b = 0; b < bargainCount; b++) {
                bargains[b].judge();
                if (bargains[b].stoodLots > 0) {
                    stood++;
                }
            }
        }

        int otherClose(int floor, int ceiling, int[] stands) {
            int lastPrice = NONE;
            for (int c = 0; c < cryCount; c++) {
                dropTakenBack(c, stands);
                stands[c] = isWithin(cries[c].price, floor, ceiling) ? cries[c].lots : 0;
                int price = meetAgain(c, stands);
                // Cries come in order of time, so the last that met decides whether it was too early.
                if (price != NONE) {
                    lastPrice = cries[c].minute >= endedAt - gap ? price : NONE;
                }
            }
            return lastPrice;
        }

        private void dropTakenBack(int upTo, int[] stands) {
            for (int c = 0; c < upTo; c++) {
                if (cries[c].backAhead == upTo) {
                    stands[c] = 0;
                }
            }
        }

        private int meetAgain(int number, int[] stands) {
            int price = NONE;
            for (int i = 0; i < cryCount && stands[number] > 0; i++) {
                int partner = bestPartner(number, stands);
                if (partner == NONE) {
                    return price;
                }
                strike(number, partner, stands);
                price = cries[partner].price;
            }
            return price;
        }
    }

    /** The house's own fund and position, all closes, and the clearing at a close. */
    private static final class House {
        final int[] closes;
        final long[] remainders;
        int closeCount;
        int position;
        long fund;
        long paid;
        long drawn;

        House() {
            closes = new int[MAX_SESSIONS];
            remainders = new long[MAX_PERSONS];
        }

        int latestClose() {
            return closeCount > 0 ? closes[closeCount - 1] : 0;
        }

        void addClose(int close) {
            if (closeCount < MAX_SESSIONS) {
                closes[closeCount] = close;
                closeCount++;
            }
        }

        long allCoins(Person[] persons, int count) {
            long all = fund;
            for (int p = 0; p < count; p++) {
                all += persons[p].coins;
            }
            return all;
        }

        /** By how much at most a close differs from one of the k behind it. */
        int widest(int number, int k) {
            int widest = 0;
            for (int c = number + 1; c < closeCount && c <= number + k; c++) {
                widest = Math.max(widest, Math.abs(closes[c] - closes[number]));
            }
            return widest;
        }

        void mark(Person[] persons, int count, int close) {
            long move = close - latestClose();
            for (int p = 0; p < count; p++) {
                persons[p].coins += persons[p].position * move;
            }
            fund += position * move;
        }

        void enter(Person[] persons, Session session) {
            for (int b = 0; b < session.bargainCount; b++) {
                Bargain bargain = session.bargains[b];
                long gain = (long) bargain.stoodLots * (session.close - bargain.stoodPrice);
                persons[bargain.buyer].position += bargain.stoodLots;
                persons[bargain.buyer].coins += gain;
                persons[bargain.seller].position -= bargain.stoodLots;
                persons[bargain.seller].coins -= gain;
            }
        }

        void callMargins(Person[] persons, int count, int margin, int grace, int minute) {
            for (int p = 0; p < count; p++) {
                Person person = persons[p];
                if (person.coins >= person.need(margin)) {
                    person.calledFrom = NONE;
                } else if (person.calledFrom == NONE) {
                    person.calledFrom = minute;
                } else if (minute - person.calledFrom >= grace) {
                    closeOut(person);
                }
            }
        }

        private void closeOut(Person person) {
            position += person.position;
            person.position = 0;
            person.calledFrom = NONE;
            person.closedOut++;
            if (person.coins < 0) {
                fund += person.coins;
                person.coins = 0;
                person.failed++;
            }
        }

        void partTheLack(Person[] persons, int count) {
            long all = 0;
            for (int p = 0; p < count; p++) {
                all += Math.max(0, persons[p].coins);
            }
            if (fund >= 0 || all <= 0) {
                return;
            }
            long lack = Math.min(-fund, all);
            long rest = lack;
            for (int p = 0; p < count; p++) {
                long part = partOf(p, Math.max(0, persons[p].coins), lack, all);
                persons[p].coins -= part;
                rest -= part;
            }
            for (int i = 0; i < count && rest > 0; i++) {
                int next = greatestRemainder(count);
                persons[next].coins--;
                remainders[next] = 0;
                rest--;
            }
            fund += lack;
        }

        // The product may be longer than a long, so it's divided bit by bit as it grows.
        private long partOf(int person, long coins, long lack, long all) {
            long quotient = 0;
            long remainder = 0;
            for (int bit = 62; bit >= 0; bit--) {
                quotient <<= 1;
                remainder <<= 1;
                if (remainder >= all) {
                    remainder -= all;
                    quotient++;
                }
                if ((coins >> bit & 1) == 1) {
                    remainder += lack;
                }
                if (remainder >= all) {
                    remainder -= all;
                    quotient++;
                }
            }
            remainders[person] = remainder;
            return quotient;
        }

        private int greatestRemainder(int count) {
            int greatest = 0;
            for (int p = 1; p < count; p++) {
                if (remainders[p] > remainders[greatest]) {
                    greatest = p;
                }
            }
            return greatest;
        }

        void settleAt(Person[] persons, int count, int settle) {
            if (settle < 1 || closeCount % settle != 0) {
                return;
            }
            position = 0;
            for (int p = 0; p < count; p++) {
                persons[p].position = 0;
                persons[p].calledFrom = NONE;
            }
        }
    }

    /** Who fails, round by round; its rows are used again for each question. */
    private static final class Ruin {
        final int[] round;
        final int[] parts;
        final long[] own;
        int failed;
        int rounds;

        Ruin() {
            round = new int[MAX_PERSONS];
            parts = new int[MAX_PERSONS];
            own = new long[MAX_PERSONS];
        }

        void reckon(Person[] persons, int count, Store[] stores, int storeCount, int close) {
            failed = 0;
            rounds = 0;
            for (int p = 0; p < count; p++) {
                round[p] = 0;
                parts[p] = 100;
                own[p] = Math.max(0, persons[p].coins);
                for (int s = 0; s < storeCount; s++) {
                    own[p] += (long) persons[p].paper[s] * close * stores[s].share() / 100;
                }
            }
            for (int r = 1; r <= count; r++) {
                int before = failed;
                failAll(persons, count, r);
                if (failed == before) {
                    return;
                }
                rounds = r;
            }
        }

        private void failAll(Person[] persons, int count, int number) {
            for (int p = 0; p < count; p++) {
                long assets = own[p] + owedTo(p, persons, count, number);
                long debts = debtsOf(persons[p], count);
                if (round[p] == 0 && assets < debts && debts > 0) {
                    round[p] = number;
                    parts[p] = (int) (assets * 100 / debts);
                    failed++;
                }
            }
        }

        private long owedTo(int person, Person[] persons, int count, int number) {
            long owed = 0;
            for (int p = 0; p < count; p++) {
                int debt = persons[p].owes[person];
                boolean failedEarlier = round[p] > 0 && round[p] < number;
                owed += failedEarlier ? (long) debt * parts[p] / 100 : debt;
            }
            return owed;
        }

        private static long debtsOf(Person person, int count) {
            long debts = Math.max(0, -person.coins);
            for (int p = 0; p < count; p++) {
                debts += person.owes[p];
            }
            return debts;
        }
    }
}
