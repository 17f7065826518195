import java.math.BigInteger;
import java.util.ArrayList;
import java.util.Collections;
import java.util.Comparator;
import java.util.List;

/** The document once more, as slow and plain as it goes, to be held against the class call by call. */
final class Model {
    static final int NONE = -1;

    static final class Someone {
        int town;
        long coins;
        int position;
        int bales;
        int called = NONE;
        int closedOut;
        int failed;
        int[] paper = new int[4];
        int[] owes = new int[16];
    }

    static final class Paper {
        int n;
        int known;
    }

    static final class Waiting {
        int person;
        int left;
        int since;
    }

    static final class Barn {
        int rice;
        int served;
        int spoiledRice;
        int spoiledPaper;
        List<Paper> issues = new ArrayList<>();
        List<Waiting> queue = new ArrayList<>();
    }

    static final class Shout {
        int person;
        boolean buys;
        int lots;
        int price;
        int minute;
        int left;
    }

    static final class Deal {
        int buyer;
        int seller;
        int lots;
        int price;
        int minute;
        int[] noteOfBuyer;
        int[] noteOfSeller;
        List<Boolean> denials = new ArrayList<>();
        int stoodLots;
        int stoodPrice;
    }

    static final class Sitting {
        int lit;
        int ended = NONE;
        int close = NONE;
        int fuse;
        int gap;
        int stood;
        List<Shout> cries = new ArrayList<>();
        List<Deal> deals = new ArrayList<>();
        /** Cries in their order (their number), and takings back (-1 less the number). */
        List<Integer> events = new ArrayList<>();
    }

    static final class Text {
        List<List<String>> conditions = new ArrayList<>();
        List<List<String>> acts = new ArrayList<>();
        int heard;
    }

    int towns = 1;
    int[][] fogs = new int[10][];
    int[][] flags = new int[10][10];
    int[][] walks = new int[10][10];
    List<Someone> persons = new ArrayList<>();
    List<Barn> stores = new ArrayList<>();
    int issues;
    int waits;
    StringBuilder tape = new StringBuilder();
    List<Text> texts = new ArrayList<>();
    int fault = NONE;
    List<Sitting> sittings = new ArrayList<>();
    Sitting on;
    List<Integer> closes = new ArrayList<>();
    int now;
    int wind;
    int housePosition;
    long fund;
    long paid;
    long drawn;

    static boolean in(int v, int a, int b) {
        return v >= a && v <= b;
    }

    int town() {
        return towns == 10 ? NONE : towns++;
    }

    boolean fog(int town, int from, int to) {
        if (!in(town, 0, towns - 1)) {
            return false;
        }
        if (from == NONE) {
            fogs[town] = null;
            return true;
        }
        if (!in(from, 0, 1439) || !in(to, 0, 1439)) {
            return false;
        }
        fogs[town] = new int[] {from, to};
        return true;
    }

    boolean road(int a, int b, int f, int w) {
        if (!in(a, 0, towns - 1) || !in(b, 0, towns - 1) || a == b || !in(f, 0, 200) || !in(w, 1, 2000)) {
            return false;
        }
        flags[a][b] = f;
        flags[b][a] = f;
        walks[a][b] = w;
        walks[b][a] = w;
        return true;
    }

    boolean foggy(int town, int hour) {
        int[] f = fogs[town];
        if (f == null) {
            return false;
        }
        return f[0] <= f[1] ? in(hour, f[0], f[1]) : hour >= f[0] || hour <= f[1];
    }

    int[] spread(int from, int minute) {
        int[] at = new int[10];
        java.util.Arrays.fill(at, NONE);
        at[from] = minute;
        boolean changed = true;
        while (changed) {
            changed = false;
            for (int a = 0; a < towns; a++) {
                for (int b = 0; b < towns; b++) {
                    if (at[a] == NONE || walks[a][b] == 0) {
                        continue;
                    }
                    int best = at[a] + walks[a][b];
                    for (int w = at[a]; flags[a][b] > 0 && w < at[a] + 2880; w++) {
                        int hour = w % 1440;
                        if (in(hour, 360, 1079) && !foggy(a, hour) && !foggy(b, hour)) {
                            best = Math.min(best, w + flags[a][b]);
                            break;
                        }
                    }
                    if (at[b] == NONE || best < at[b]) {
                        at[b] = best;
                        changed = true;
                    }
                }
            }
        }
        return at;
    }

    int news(int from, int to, int minute) {
        if (!in(from, 0, towns - 1) || !in(to, 0, towns - 1) || !in(minute, 0, 57600)) {
            return NONE;
        }
        return spread(from, minute)[to];
    }

    int person(int town) {
        if (!in(town, 0, towns - 1) || persons.size() == 16) {
            return NONE;
        }
        Someone p = new Someone();
        p.town = town;
        persons.add(p);
        return persons.size() - 1;
    }

    int hears(int from, int minute, int k) {
        if (!in(from, 0, towns - 1) || !in(minute, 0, 57600)) {
            return NONE;
        }
        int[] at = spread(from, minute);
        List<Integer> who = new ArrayList<>();
        for (int p = 0; p < persons.size(); p++) {
            if (at[persons.get(p).town] != NONE) {
                who.add(p);
            }
        }
        who.sort(Comparator.<Integer>comparingInt(p -> at[persons.get(p).town]).thenComparingInt(p -> p));
        return in(k, 0, who.size() - 1) ? who.get(k) : NONE;
    }

    boolean isPerson(int p) {
        return in(p, 0, persons.size() - 1);
    }

    boolean isStore(int s) {
        return in(s, 0, stores.size() - 1);
    }

    int store() {
        if (stores.size() == 4) {
            return NONE;
        }
        stores.add(new Barn());
        return stores.size() - 1;
    }

    int out(int s) {
        int out = 0;
        for (Someone p : persons) {
            out += p.paper[s];
        }
        for (Waiting w : stores.get(s).queue) {
            out += w.left;
        }
        return out;
    }

    int issue(int s, int p, int n, int late) {
        if (!isStore(s) || !isPerson(p) || !in(n, 1, 500) || !in(late, 0, 2000) || issues == 60) {
            return NONE;
        }
        issues++;
        Paper paper = new Paper();
        paper.n = n;
        paper.known = now + late;
        stores.get(s).issues.add(paper);
        persons.get(p).paper[s] += n;
        return out(s);
    }

    boolean give(int from, int to, int s, int n) {
        if (!isPerson(from) || !isPerson(to) || !isStore(s) || n < 1 || persons.get(from).paper[s] < n) {
            return false;
        }
        persons.get(from).paper[s] -= n;
        persons.get(to).paper[s] += n;
        return true;
    }

    int serve(int s) {
        Barn b = stores.get(s);
        int served = 0;
        while (!b.queue.isEmpty() && b.rice > 0) {
            Waiting w = b.queue.get(0);
            w.left--;
            b.rice--;
            served++;
            persons.get(w.person).bales++;
            if (w.left == 0) {
                b.queue.remove(0);
            }
        }
        b.served += served;
        return served;
    }

    int call(int p, int s, int n) {
        if (!isPerson(p) || !isStore(s) || n < 1 || persons.get(p).paper[s] < n || waits == 60) {
            return NONE;
        }
        waits++;
        persons.get(p).paper[s] -= n;
        Waiting w = new Waiting();
        w.person = p;
        w.left = n;
        w.since = now;
        stores.get(s).queue.add(w);
        return serve(s);
    }

    int come(int s, int bales) {
        if (!isStore(s) || !in(bales, 1, 9999) || stores.get(s).rice + bales > 99999) {
            return NONE;
        }
        stores.get(s).rice += bales;
        return serve(s);
    }

    int spoil(int s, int p) {
        if (!isStore(s) || !in(p, 0, 100)) {
            return NONE;
        }
        boolean holder = ask("spoil") == 1;
        Barn b = stores.get(s);
        int lost = b.rice * p / 100;
        b.rice -= lost;
        b.spoiledRice += lost;
        if (holder) {
            for (Someone one : persons) {
                int gone = one.paper[s] * p / 100;
                one.paper[s] -= gone;
                b.spoiledPaper += gone;
            }
        }
        return lost;
    }

    int over(int s, int known) {
        if (!isStore(s) || !in(known, 0, now)) {
            return NONE;
        }
        Barn b = stores.get(s);
        int over = -b.served - b.spoiledPaper - b.rice;
        for (Paper i : b.issues) {
            over += i.known <= known ? i.n : 0;
        }
        return Math.max(over, 0);
    }

    int share(int s) {
        int out = out(s);
        return out == 0 ? 100 : Math.min(100, stores.get(s).rice * 100 / out);
    }

    int storeOf(int s, int what) {
        if (!isStore(s)) {
            return NONE;
        }
        Barn b = stores.get(s);
        int waiting = 0;
        boolean cannot = false;
        for (Waiting w : b.queue) {
            waiting += w.left;
            cannot |= now - w.since >= 2880;
        }
        int first = b.queue.isEmpty() ? NONE : b.queue.get(0).person;
        int[] all = {b.rice, out(s), waiting, b.served, b.spoiledRice, cannot ? 1 : 0, first, share(s)};
        return in(what, 0, 7) ? all[what] : NONE;
    }

    long need(Someone p) {
        return (long) ask("margin") * Math.abs(p.position);
    }

    int told(int person, int what) {
        if (!isPerson(person)) {
            return -100000000;
        }
        Someone p = persons.get(person);
        int need = (int) Math.min(need(p), 2000000000L);
        int[] all = {p.town, p.position, p.bales, p.called, p.closedOut, p.failed, need};
        if (in(what, 0, 6)) {
            return all[what];
        }
        return in(what, 10, 13) && what - 10 < stores.size() ? p.paper[what - 10] : -100000000;
    }

    long coins(int person) {
        return person == NONE ? fund : isPerson(person) ? persons.get(person).coins : -1000000000000L;
    }

    boolean pay(int person, int c) {
        if (!isPerson(person) || !in(c, 1, 99999)) {
            return false;
        }
        persons.get(person).coins += c;
        paid += c;
        return true;
    }

    boolean draw(int person, int c) {
        if (!isPerson(person) || !in(c, 1, 99999)) {
            return false;
        }
        Someone p = persons.get(person);
        if (p.coins < need(p) + c) {
            return false;
        }
        p.coins -= c;
        drawn += c;
        return true;
    }

    int feed(int a, int b, int c, int d, int e) {
        if (tape.length() + 20 > 500) {
            return NONE;
        }
        for (int v : new int[] {a, b, c, d, e}) {
            tape.append((char) (v >>> 24)).append((char) (v >>> 16 & 255)).append((char) (v >>> 8 & 255));
            tape.append((char) (v & 255));
        }
        return tape.length();
    }

    int rules(int town, int n) {
        if (!in(town, 0, towns - 1) || !in(n, 0, tape.length())) {
            return -2;
        }
        if (texts.size() == 8) {
            return -3;
        }
        String s = tape.substring(0, n);
        tape.setLength(0);
        Text text = new Text();
        fault = faultOf(s, text);
        if (fault != NONE) {
            return NONE;
        }
        text.heard = spread(town, now)[0];
        if (text.heard == NONE || text.heard > 57600) {
            return -4;
        }
        texts.add(text);
        return texts.size() - 1;
    }

    static final List<String> ACTS = List.of("floor", "ceiling", "margin", "fuse", "burn", "gust", "gap", "grace",
            "settle", "spoil", "halt");
    static final List<String> NAMES = List.of("day", "hour", "wind", "close", "sessions", "rice", "out");

    static boolean letter(char c) {
        return c >= 'a' && c <= 'z';
    }

    static boolean digit(char c) {
        return c >= '0' && c <= '9';
    }

    /** A machine with a stack of what is open, that says what it waits for. */
    static int faultOf(String s, Text text) {
        String waits = "statement";
        String word = "";
        int statements = 0;
        StringBuilder open = new StringBuilder();
        List<String> condition = new ArrayList<>();
        List<String> act = new ArrayList<>();
        int at = 0;
        while (true) {
            while (at < s.length() && (s.charAt(at) == ' ' || s.charAt(at) == '\n')) {
                at++;
            }
            if (at == s.length()) {
                return waits.equals("statement") ? NONE : s.length();
            }
            int end = at + 1;
            boolean letters = letter(s.charAt(at));
            boolean digits = digit(s.charAt(at));
            while (end < s.length() && (letters && letter(s.charAt(end)) || digits && digit(s.charAt(end)))) {
                end++;
            }
            String token = s.substring(at, end);
            boolean right = false;
            switch (waits) {
                case "statement":
                    if (statements == 24) {
                        return at;
                    }
                    condition = new ArrayList<>();
                    act = new ArrayList<>();
                    if (token.equals("if")) {
                        right = true;
                        waits = "fact";
                    } else if (ACTS.contains(token)) {
                        right = true;
                        word = token;
                        act.add(token);
                        waits = token.equals("halt") ? ";" : "value";
                    }
                    break;
                case "fact":
                    condition.add(token);
                    if ((token.equals("not") || token.equals("(")) && open.length() < 8) {
                        right = true;
                        open.append(token.charAt(0));
                    } else if (NAMES.contains(token)) {
                        right = true;
                        waits = "sign";
                    }
                    break;
                case "sign":
                    condition.add(token);
                    right = token.equals("<") || token.equals(">") || token.equals("=");
                    waits = "number";
                    break;
                case "number":
                    condition.add(token);
                    right = digits && token.length() <= 5;
                    waits = "behind";
                    closeNots(open);
                    break;
                case "behind":
                    if (token.equals("and") || token.equals("or")) {
                        condition.add(token);
                        right = true;
                        waits = "fact";
                    } else if (token.equals(")") && open.length() > 0) {
                        condition.add(token);
                        right = true;
                        open.setLength(open.length() - 1);
                        closeNots(open);
                    } else if (ACTS.contains(token) && open.length() == 0) {
                        right = true;
                        word = token;
                        act.add(token);
                        waits = token.equals("halt") ? ";" : "value";
                    }
                    break;
                case "value":
                    act.add(token);
                    if (word.equals("spoil")) {
                        right = token.equals("store") || token.equals("holder");
                    } else {
                        right = digits && token.length() <= 5;
                        if (right && (word.equals("fuse") || word.equals("burn") || word.equals("settle"))) {
                            right = Integer.parseInt(token) >= 1;
                        }
                    }
                    waits = ";";
                    break;
                default:
                    right = token.equals(";");
                    waits = "statement";
                    statements++;
                    text.conditions.add(condition);
                    text.acts.add(act);
                    break;
            }
            if (!right) {
                return at;
            }
            at = end;
        }
    }

    static void closeNots(StringBuilder open) {
        while (open.length() > 0 && open.charAt(open.length() - 1) == 'n') {
            open.setLength(open.length() - 1);
        }
    }

    int fault() {
        return fault;
    }

    int inForce() {
        int best = NONE;
        for (int t = 0; t < texts.size(); t++) {
            if (texts.get(t).heard <= now && (best == NONE || texts.get(t).heard >= texts.get(best).heard)) {
                best = t;
            }
        }
        return best;
    }

    int ask(String word) {
        int[] untold = {0, 99999, 10, 600, 10, 1, 10, 1440, 4, 0, 0};
        int answer = untold[ACTS.indexOf(word)];
        int t = inForce();
        for (int s = 0; t != NONE && s < texts.get(t).acts.size(); s++) {
            List<String> act = texts.get(t).acts.get(s);
            List<String> condition = texts.get(t).conditions.get(s);
            if (act.get(0).equals(word) && (condition.isEmpty() || holds(condition))) {
                answer = word.equals("halt") ? 1 : word.equals("spoil") ? (act.get(1).equals("holder") ? 1 : 0)
                        : Integer.parseInt(act.get(1));
            }
        }
        return answer;
    }

    /** Splits at the last "or" that is in no bracket, then at the last "and". */
    boolean holds(List<String> c) {
        for (String join : new String[] {"or", "and"}) {
            int depth = 0;
            for (int i = c.size() - 1; i >= 0; i--) {
                depth += c.get(i).equals(")") ? 1 : c.get(i).equals("(") ? -1 : 0;
                if (depth == 0 && c.get(i).equals(join)) {
                    boolean left = holds(c.subList(0, i));
                    boolean right = holds(c.subList(i + 1, c.size()));
                    return join.equals("or") ? left || right : left && right;
                }
            }
        }
        if (c.get(0).equals("not")) {
            return !holds(c.subList(1, c.size()));
        }
        if (c.get(0).equals("(")) {
            return holds(c.subList(1, c.size() - 1));
        }
        int rice = 0;
        int out = 0;
        for (int s = 0; s < stores.size(); s++) {
            rice += stores.get(s).rice;
            out += out(s);
        }
        int[] facts = {now / 1440, now % 1440, wind, close(), closes.size(), rice, out};
        int fact = facts[NAMES.indexOf(c.get(0))];
        int number = Integer.parseInt(c.get(2));
        return c.get(1).equals("<") ? fact < number : c.get(1).equals(">") ? fact > number : fact == number;
    }

    int close() {
        return closes.isEmpty() ? 0 : closes.get(closes.size() - 1);
    }

    int rule(int what) {
        return what == 11 ? inForce() : in(what, 0, 10) ? ask(ACTS.get(what)) : NONE;
    }

    int heard(int t) {
        return in(t, 0, texts.size() - 1) ? texts.get(t).heard : NONE;
    }

    boolean wind(int w) {
        if (!in(w, 0, 9)) {
            return false;
        }
        wind = w;
        return true;
    }

    int light() {
        if (on != null || sittings.size() == 24) {
            return NONE;
        }
        on = new Sitting();
        on.lit = now;
        on.fuse = ask("fuse");
        sittings.add(on);
        return sittings.size() - 1;
    }

    int cry(int person, boolean buys, int lots, int price) {
        if (!isPerson(person) || !in(lots, 1, 50) || !in(price, 1, 9999) || on == null || on.cries.size() == 60) {
            return NONE;
        }
        if (ask("halt") == 1) {
            return -2;
        }
        if (persons.get(person).called != NONE) {
            return -4;
        }
        Shout c = new Shout();
        c.person = person;
        c.buys = buys;
        c.lots = lots;
        c.price = price;
        c.minute = now;
        on.events.add(on.cries.size());
        on.cries.add(c);
        if (price < ask("floor") || price > ask("ceiling")) {
            return -3;
        }
        c.left = lots;
        meet(on.cries, c, on.deals);
        return on.cries.size() - 1;
    }

    static void meet(List<Shout> all, Shout c, List<Deal> deals) {
        List<Shout> others = new ArrayList<>();
        for (Shout o : all) {
            boolean meets = c.buys ? o.price <= c.price : o.price >= c.price;
            if (o.left > 0 && o.buys != c.buys && o.person != c.person && meets) {
                others.add(o);
            }
        }
        // The sort is stable: of one price the first told stays first.
        others.sort(Comparator.comparingInt(o -> c.buys ? o.price : -o.price));
        for (Shout o : others) {
            int lots = Math.min(o.left, c.left);
            if (lots > 0) {
                Deal d = new Deal();
                d.buyer = c.buys ? c.person : o.person;
                d.seller = c.buys ? o.person : c.person;
                d.lots = lots;
                d.price = o.price;
                d.minute = c.minute;
                deals.add(d);
                o.left -= lots;
                c.left -= lots;
            }
        }
    }

    int back(int cry) {
        if (on == null || !in(cry, 0, on.cries.size() - 1) || on.cries.get(cry).left == 0) {
            return NONE;
        }
        int left = on.cries.get(cry).left;
        on.cries.get(cry).left = 0;
        on.events.add(-1 - cry);
        return left;
    }

    boolean note(int deal, boolean buyer, int lots, int price) {
        if (on == null || !in(deal, 0, on.deals.size() - 1) || !in(lots, 1, 99) || !in(price, 1, 9999)) {
            return false;
        }
        int[] note = {lots, price};
        if (buyer) {
            on.deals.get(deal).noteOfBuyer = note;
        } else {
            on.deals.get(deal).noteOfSeller = note;
        }
        return true;
    }

    boolean deny(int deal, boolean buyer) {
        if (on == null || !in(deal, 0, on.deals.size() - 1) || on.deals.get(deal).denials.contains(buyer)) {
            return false;
        }
        on.deals.get(deal).denials.add(buyer);
        return true;
    }

    int pass(int n) {
        if (!in(n, 1, 3000) || now + n > 57600) {
            return NONE;
        }
        for (int i = 0; i < n; i++) {
            int shorter = on == null ? 0 : ask("burn") + ask("gust") * wind;
            now++;
            if (on != null) {
                on.fuse = Math.max(0, on.fuse - shorter);
                if (on.fuse == 0) {
                    end();
                }
            }
        }
        return now;
    }

    void end() {
        Sitting s = on;
        on = null;
        s.ended = now;
        s.gap = ask("gap");
        Deal last = s.deals.isEmpty() ? null : s.deals.get(s.deals.size() - 1);
        if (last == null || last.minute < now - s.gap) {
            return;
        }
        s.close = last.price;
        for (Deal d : s.deals) {
            judge(d);
            s.stood += d.stoodLots > 0 ? 1 : 0;
        }
        clear(s);
    }

    static void judge(Deal d) {
        int[] b = d.noteOfBuyer;
        int[] s = d.noteOfSeller;
        int[] as = {0, 0};
        if (d.denials.isEmpty()) {
            as = new int[] {d.lots, d.price};
        } else if (b != null && s != null) {
            as = b[0] == s[0] && b[1] == s[1] ? b : new int[] {Math.min(b[0], s[0]), (b[1] + s[1]) / 2};
        } else if (b != null && d.denials.get(0)) {
            as = b;
        } else if (s != null && !d.denials.get(0)) {
            as = s;
        }
        d.stoodLots = as[0];
        d.stoodPrice = as[1];
    }

    void clear(Sitting s) {
        int ahead = close();
        for (Someone p : persons) {
            p.coins += (long) p.position * (s.close - ahead);
        }
        fund += (long) housePosition * (s.close - ahead);
        closes.add(s.close);
        for (Deal d : s.deals) {
            persons.get(d.buyer).position += d.stoodLots;
            persons.get(d.seller).position -= d.stoodLots;
            long gain = (long) d.stoodLots * (s.close - d.stoodPrice);
            persons.get(d.buyer).coins += gain;
            persons.get(d.seller).coins -= gain;
        }
        int grace = ask("grace");
        for (Someone p : persons) {
            if (p.coins >= need(p)) {
                p.called = NONE;
            } else if (p.called != NONE && now - p.called >= grace) {
                housePosition += p.position;
                p.position = 0;
                p.called = NONE;
                p.closedOut++;
                if (p.coins < 0) {
                    fund += p.coins;
                    p.coins = 0;
                    p.failed++;
                }
            } else {
                p.called = p.called == NONE ? now : p.called;
            }
        }
        bear();
        if (closes.size() % ask("settle") == 0) {
            housePosition = 0;
            for (Someone p : persons) {
                p.position = 0;
                p.called = NONE;
            }
        }
    }

    void bear() {
        List<Someone> rich = new ArrayList<>();
        BigInteger all = BigInteger.ZERO;
        for (Someone p : persons) {
            if (p.coins > 0) {
                rich.add(p);
                all = all.add(BigInteger.valueOf(p.coins));
            }
        }
        if (fund >= 0 || rich.isEmpty()) {
            return;
        }
        BigInteger lack = BigInteger.valueOf(-fund).min(all);
        long rest = lack.longValue();
        List<BigInteger> remainders = new ArrayList<>();
        for (Someone p : rich) {
            BigInteger[] part = BigInteger.valueOf(p.coins).multiply(lack).divideAndRemainder(all);
            p.coins -= part[0].longValue();
            rest -= part[0].longValue();
            remainders.add(part[1]);
        }
        for (; rest > 0; rest--) {
            int greatest = remainders.indexOf(Collections.max(remainders));
            rich.get(greatest).coins--;
            remainders.set(greatest, BigInteger.valueOf(-1));
        }
        fund += lack.longValue();
    }

    int session(int number, int what) {
        if (!in(number, 0, sittings.size() - 1) || !in(what, 0, 6)) {
            return NONE;
        }
        Sitting s = sittings.get(number);
        return new int[] {s.lit, s.ended, s.close, s.cries.size(), s.deals.size(), s.stood, s.fuse}[what];
    }

    int bargain(int number, int deal, int what) {
        if (!in(number, 0, sittings.size() - 1) || !in(what, 0, 7)
                || !in(deal, 0, sittings.get(number).deals.size() - 1)) {
            return NONE;
        }
        Deal d = sittings.get(number).deals.get(deal);
        int denied = d.denials.isEmpty() ? 0 : 1;
        return new int[] {d.buyer, d.seller, d.lots, d.price, d.minute, d.stoodLots, d.stoodPrice, denied}[what];
    }

    int best(int what) {
        if (on == null || !in(what, 0, 3)) {
            return NONE;
        }
        boolean buys = what < 2;
        int price = NONE;
        for (Shout c : on.cries) {
            if (c.buys == buys && c.left > 0) {
                price = price == NONE ? c.price : buys ? Math.max(price, c.price) : Math.min(price, c.price);
            }
        }
        int lots = 0;
        for (Shout c : on.cries) {
            lots += c.buys == buys && c.price == price ? c.left : 0;
        }
        return price == NONE ? NONE : what % 2 == 0 ? price : lots;
    }

    boolean owe(int from, int to, int c) {
        if (!isPerson(from) || !isPerson(to) || from == to || !in(c, 0, 99999)) {
            return false;
        }
        persons.get(from).owes[to] = c;
        return true;
    }

    int fails(int person, int what) {
        if (!isPerson(person) || !in(what, 0, 3)) {
            return NONE;
        }
        int n = persons.size();
        int[] round = new int[n];
        int[] parts = new int[n];
        java.util.Arrays.fill(parts, 100);
        int failed = 0;
        int rounds = 0;
        boolean some = true;
        while (some) {
            int[] partsThen = parts.clone();
            int before = failed;
            for (int p = 0; p < n; p++) {
                long assets = Math.max(0, persons.get(p).coins);
                for (int s = 0; s < stores.size(); s++) {
                    assets += (long) persons.get(p).paper[s] * close() * share(s) / 100;
                }
                long debts = Math.max(0, -persons.get(p).coins);
                for (int o = 0; o < n; o++) {
                    assets += (long) persons.get(o).owes[p] * partsThen[o] / 100;
                    debts += persons.get(p).owes[o];
                }
                if (round[p] == 0 && assets < debts) {
                    round[p] = rounds + 1;
                    parts[p] = (int) (assets * 100 / debts);
                    failed++;
                }
            }
            some = failed > before;
            rounds += some ? 1 : 0;
        }
        return new int[] {round[person], parts[person], failed, rounds}[what];
    }

    int other(int number, int floor, int ceiling) {
        if (!in(number, 0, sittings.size() - 1) || !in(floor, 0, 99999) || !in(ceiling, 0, 99999)
                || sittings.get(number).ended == NONE) {
            return NONE;
        }
        Sitting s = sittings.get(number);
        List<Shout> again = new ArrayList<>();
        List<Deal> deals = new ArrayList<>();
        for (int event : s.events) {
            if (event < 0) {
                again.get(-1 - event).left = 0;
                continue;
            }
            Shout was = s.cries.get(event);
            Shout c = new Shout();
            c.person = was.person;
            c.buys = was.buys;
            c.price = was.price;
            c.minute = was.minute;
            again.add(c);
            if (c.price >= floor && c.price <= ceiling) {
                c.left = was.lots;
                meet(again, c, deals);
            }
        }
        if (deals.isEmpty() || deals.get(deals.size() - 1).minute < s.ended - s.gap) {
            return NONE;
        }
        return deals.get(deals.size() - 1).price;
    }

    int least(int k) {
        if (!in(k, 1, 10) || closes.size() < 2) {
            return NONE;
        }
        int margin = 0;
        while (judged(margin, k) > 0) {
            margin++;
        }
        return margin;
    }

    int judged(int margin, int k) {
        if (!in(margin, 0, 99999) || !in(k, 1, 10)) {
            return NONE;
        }
        int found = 0;
        for (int i = 0; i < closes.size(); i++) {
            boolean more = false;
            for (int j = i + 1; j < closes.size() && j - i <= k; j++) {
                more |= Math.abs(closes.get(i) - closes.get(j)) > margin;
            }
            found += more ? 1 : 0;
        }
        return found;
    }

    int count(int what) {
        int[] all = {now, towns, persons.size(), stores.size(), sittings.size(), closes.size(), close(), wind,
            housePosition, texts.size(), issues, waits, tape.length(), on == null ? 0 : 1};
        return in(what, 0, 13) ? all[what] : -100000000;
    }

    long sum(int what) {
        long all = fund;
        for (Someone p : persons) {
            all += p.coins;
        }
        return what == 0 ? paid : what == 1 ? drawn : what == 2 ? all : NONE;
    }
}
