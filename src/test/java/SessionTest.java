/** Promises 26 to 34: light, cry, back, note, deny, pass, session, bargain, best. */
public final class SessionTest {
    private SessionTest() {
    }

    public static void main(String[] args) {
        lights();
        burns();
        burnsByTheMinuteThatGoesBy();
        passes();
        criesRefused();
        priceRefused();
        bestPriceFirst();
        firstToldFirst();
        ownCriesDoNotMeet();
        sixtyCries();
        backs();
        bests();
        noClose();
        gapAtItsEdge();
        gapAsAskedThen();
        books();
        bookEdges();
        Due.end();
    }

    /** A hall with persons who have coins enough, under a rule that ends each session in a minute. */
    private static RiceHall hall(int persons, String rules) {
        RiceHall x = new RiceHall();
        for (int p = 0; p < persons; p++) {
            x.person(0);
            x.pay(p, 99999);
        }
        if (!rules.isEmpty()) {
            Due.is(rules, Due.rules(x, 0, rules), 0);
        }
        return x;
    }

    private static void lights() {
        RiceHall x = hall(0, "fuse 7;burn 9;");
        Due.is("session(0, 0)", x.session(0, 0), -1);
        x.pass(5);
        for (int s = 0; s < 24; s++) {
            Due.is("light()", x.light(), s);
            Due.is("light() while one is on", x.light(), -1);
            Due.is("count(13)", x.count(13), 1);
            Due.is("lit at", x.session(s, 0), 5 + s);
            Due.is("ended at", x.session(s, 1), -1);
            Due.is("close", x.session(s, 2), -1);
            Due.is("left", x.session(s, 6), 7);
            x.pass(1);
            Due.is("left", x.session(s, 6), 0);
            Due.is("ended at", x.session(s, 1), 6 + s);
            Due.is("count(13)", x.count(13), 0);
        }
        Due.is("the 25th", x.light(), -1);
        Due.is("count(4)", x.count(4), 24);
        Due.is("count(5)", x.count(5), 0);
        Due.is("session(24, 0)", x.session(24, 0), -1);
        Due.is("session(-1, 0)", x.session(-1, 0), -1);
        Due.is("session(0, 7)", x.session(0, 7), -1);
        Due.is("session(0, -1)", x.session(0, -1), -1);
    }

    private static void burns() {
        RiceHall x = hall(0, "fuse 100;burn 7;gust 3;");
        x.light();
        x.wind(2);
        x.pass(1);
        Due.is("in the wind", x.session(0, 6), 87);
        x.wind(0);
        x.pass(2);
        Due.is("without", x.session(0, 6), 73);
        x.wind(9);
        x.pass(2);
        Due.is("in much wind", x.session(0, 6), 5);
        x.pass(100);
        Due.is("ended at its minute", x.session(0, 1), 6);
        Due.is("count(0)", x.count(0), 105);
    }

    private static void burnsByTheMinuteThatGoesBy() {
        RiceHall x = hall(0, "fuse 1000;burn 1;if hour=10 burn 100;");
        x.light();
        x.pass(10);
        Due.is("ten minutes", x.session(0, 6), 990);
        x.pass(1);
        Due.is("the minute 10", x.session(0, 6), 890);
        x.pass(1);
        Due.is("the minute 11", x.session(0, 6), 889);
        x.town();
        x.road(0, 1, 0, 3);
        Due.rules(x, 1, "fuse 5;burn 50;");
        x.pass(3);
        Due.is("till it's heard", x.session(0, 6), 886);
        x.pass(1);
        Due.is("from when it's heard", x.session(0, 6), 836);
    }

    private static void passes() {
        RiceHall x = new RiceHall();
        Due.is("pass(0)", x.pass(0), -1);
        Due.is("pass(-1)", x.pass(-1), -1);
        Due.is("pass(3001)", x.pass(3001), -1);
        Due.is("pass(2147483647)", x.pass(Integer.MAX_VALUE), -1);
        for (int i = 1; i <= 19; i++) {
            Due.is("pass(3000)", x.pass(3000), 3000 * i);
        }
        Due.is("above 57,600", x.pass(601), -1);
        Due.is("count(0)", x.count(0), 57000);
        Due.is("pass(600)", x.pass(600), 57600);
        Due.is("pass(1)", x.pass(1), -1);
    }

    private static void criesRefused() {
        RiceHall x = hall(2, "if wind=5 halt;");
        Due.is("no session", x.cry(0, true, 1, 1), -1);
        x.light();
        Due.is("no lots", x.cry(0, true, 0, 1), -1);
        Due.is("51 lots", x.cry(0, true, 51, 1), -1);
        Due.is("price 0", x.cry(0, true, 1, 0), -1);
        Due.is("price 10,000", x.cry(0, true, 1, 10000), -1);
        Due.is("nobody", x.cry(2, true, 1, 1), -1);
        Due.is("nobody", x.cry(-1, true, 1, 1), -1);
        x.wind(5);
        Due.is("halt", x.cry(0, true, 1, 1), -2);
        Due.is("not as told goes ahead of halt", x.cry(0, true, 0, 1), -1);
        Due.is("none counts", x.session(0, 3), 0);
        x.wind(4);
        Due.is("no halt", x.cry(0, true, 50, 9999), 0);
        Due.is("cries", x.session(0, 3), 1);
    }

    private static void priceRefused() {
        RiceHall x = hall(2, "floor 10;ceiling 20;");
        x.light();
        Due.is("below the floor", x.cry(0, true, 1, 9), -3);
        Due.is("it counts", x.session(0, 3), 1);
        Due.is("it stands for nothing", x.best(0), -1);
        Due.is("nothing to take back", x.back(0), -1);
        Due.is("at the floor", x.cry(0, true, 1, 10), 1);
        Due.is("at the ceiling", x.cry(0, false, 1, 20), 2);
        Due.is("above the ceiling", x.cry(1, true, 1, 21), -3);
        Due.is("it met nothing", x.session(0, 4), 0);
        Due.is("cries", x.session(0, 3), 4);
    }

    private static void bargain(RiceHall x, int session, int bargain, int... wants) {
        for (int what = 0; what < wants.length; what++) {
            Due.is("bargain(" + session + ", " + bargain + ", " + what + ")", x.bargain(session, bargain, what),
                    wants[what]);
        }
    }

    private static void bestPriceFirst() {
        RiceHall x = hall(4, "");
        x.light();
        x.cry(0, false, 5, 12);
        x.cry(1, false, 5, 10);
        x.cry(2, false, 5, 11);
        x.cry(0, false, 5, 14);
        x.pass(3);
        Due.is("who buys meets the least", x.cry(3, true, 17, 13), 4);
        Due.is("bargains", x.session(0, 4), 3);
        bargain(x, 0, 0, 3, 1, 5, 10, 3, 0, 0, 0, -1);
        bargain(x, 0, 1, 3, 2, 5, 11, 3, 0, 0, 0);
        bargain(x, 0, 2, 3, 0, 5, 12, 3, 0, 0, 0);
        Due.is("bargain(0, 3, 0)", x.bargain(0, 3, 0), -1);
        Due.is("bargain(0, -1, 0)", x.bargain(0, -1, 0), -1);
        Due.is("bargain(1, 0, 0)", x.bargain(1, 0, 0), -1);
        Due.is("bargain(0, 0, -1)", x.bargain(0, 0, -1), -1);
        Due.is("what is left stands", x.best(0), 13);
        Due.is("what is left stands", x.best(1), 2);
        x.cry(2, true, 4, 12);
        x.cry(1, true, 4, 13);
        Due.is("who sells meets the greatest", x.cry(0, false, 8, 12), 7);
        bargain(x, 0, 3, 3, 0, 2, 13, 3);
        bargain(x, 0, 4, 1, 0, 4, 13, 3);
        bargain(x, 0, 5, 2, 0, 2, 12, 3);
        Due.is("lots left", x.best(1), 2);
    }

    private static void firstToldFirst() {
        RiceHall x = hall(4, "");
        x.light();
        x.cry(2, true, 3, 50);
        x.cry(1, true, 3, 50);
        x.cry(0, true, 3, 50);
        x.cry(3, false, 7, 1);
        bargain(x, 0, 0, 2, 3, 3, 50);
        bargain(x, 0, 1, 1, 3, 3, 50);
        bargain(x, 0, 2, 0, 3, 1, 50);
        Due.is("prices that don't meet", x.cry(3, false, 1, 51), 4);
        Due.is("bargains", x.session(0, 4), 3);
        x.cry(2, false, 1, 51);
        x.cry(1, true, 2, 60);
        bargain(x, 0, 3, 1, 3, 1, 51);
        bargain(x, 0, 4, 1, 2, 1, 51);
    }

    private static void ownCriesDoNotMeet() {
        RiceHall x = hall(2, "");
        x.light();
        x.cry(0, true, 3, 50);
        x.cry(1, true, 3, 40);
        x.cry(0, false, 5, 30);
        bargain(x, 0, 0, 1, 0, 3, 40);
        Due.is("bargains", x.session(0, 4), 1);
        Due.is("best to buy", x.best(0), 50);
        Due.is("best to sell", x.best(2), 30);
        Due.is("what is left", x.best(3), 2);
    }

    private static void sixtyCries() {
        RiceHall x = hall(3, "ceiling 100;");
        x.light();
        for (int c = 0; c < 58; c++) {
            Due.is("cry " + c, x.cry(c % 2, true, 1, 1 + c), c);
        }
        Due.is("refused for its price", x.cry(0, true, 1, 101), -3);
        Due.is("the last", x.cry(2, false, 50, 1), 59);
        Due.is("the 61st", x.cry(0, true, 1, 1), -1);
        Due.is("the 61st goes ahead of its price", x.cry(0, true, 1, 101), -1);
        Due.rules(x, 0, "halt;");
        Due.is("the 61st goes ahead of halt", x.cry(0, true, 1, 1), -1);
        Due.rules(x, 0, "ceiling 100;");
        Due.is("cries", x.session(0, 3), 60);
        Due.is("bargains", x.session(0, 4), 50);
        bargain(x, 0, 49, 0, 2, 1, 9);
        x.pass(60);
        x.light();
        Due.is("numbers begin anew", x.cry(0, true, 1, 1), 0);
    }

    private static void backs() {
        RiceHall x = hall(2, "");
        Due.is("no session", x.back(0), -1);
        x.light();
        Due.is("none such", x.back(0), -1);
        x.cry(0, true, 9, 50);
        Due.is("none such", x.back(1), -1);
        Due.is("none such", x.back(-1), -1);
        x.cry(1, false, 4, 50);
        Due.is("met whole", x.back(1), -1);
        Due.is("what stood", x.back(0), 5);
        Due.is("nothing stands any more", x.back(0), -1);
        x.cry(1, false, 4, 50);
        Due.is("it meets nothing any more", x.session(0, 4), 1);
        x.pass(60);
        Due.is("not behind the end", x.back(2), -1);
        x.light();
        Due.is("not of an earlier session", x.back(2), -1);
    }

    private static void bests() {
        RiceHall x = hall(3, "");
        Due.is("no session", x.best(0), -1);
        x.light();
        for (int what = -1; what < 5; what++) {
            Due.is("nothing stands", x.best(what), -1);
        }
        x.cry(0, true, 3, 50);
        x.cry(1, true, 4, 50);
        x.cry(2, true, 5, 49);
        x.cry(0, false, 6, 60);
        x.cry(1, false, 7, 61);
        x.cry(2, false, 8, 60);
        int[] wants = {50, 7, 60, 14};
        for (int what = 0; what < 4; what++) {
            Due.is("best(" + what + ")", x.best(what), wants[what]);
        }
        Due.is("best(4)", x.best(4), -1);
        Due.is("best(-1)", x.best(-1), -1);
        x.pass(60);
        Due.is("ended", x.best(0), -1);
    }

    private static void noClose() {
        RiceHall x = hall(2, "");
        x.light();
        x.cry(0, true, 3, 50);
        x.cry(1, false, 3, 50);
        x.pass(60);
        Due.is("no close", x.session(0, 2), -1);
        Due.is("met", x.session(0, 4), 1);
        Due.is("none stood", x.session(0, 5), 0);
        bargain(x, 0, 0, 0, 1, 3, 50, 0, 0, 0, 0);
        Due.is("no position", x.told(0, 1), 0);
        Due.is("count(5)", x.count(5), 0);
        Due.is("count(6)", x.count(6), 0);
        x.light();
        x.pass(60);
        Due.is("without bargains", x.session(1, 2), -1);
    }

    private static void gapAtItsEdge() {
        RiceHall x = hall(2, "gap 5;");
        for (int s = 0; s < 2; s++) {
            x.light();
            x.pass(54 + s);
            x.cry(0, true, 3, 50);
            x.cry(1, false, 2, 40);
            x.pass(6 - s);
        }
        Due.is("6 minutes ahead of the end", x.session(0, 2), -1);
        Due.is("5 minutes ahead of the end", x.session(1, 2), 50);
        Due.is("stood", x.session(1, 5), 1);
        bargain(x, 1, 0, 0, 1, 2, 50, 115, 2, 50, 0);
        Due.is("count(5)", x.count(5), 1);
        Due.is("count(6)", x.count(6), 50);
    }

    private static void gapAsAskedThen() {
        RiceHall x = hall(2, "gap 0;fuse 10;burn 1;if hour=10 gap 9;if sessions=1 gap 0;");
        x.light();
        x.pass(1);
        x.cry(0, true, 3, 50);
        x.cry(1, false, 2, 40);
        x.pass(9);
        Due.is("asked at the minute it ended, with the closes ahead of it", x.session(0, 2), 50);
    }

    private static void deal(RiceHall x) {
        x.cry(0, true, 9, 50);
        x.cry(1, false, 9, 50);
    }

    private static void books() {
        RiceHall x = hall(2, "burn 600;");
        x.light();
        for (int b = 0; b < 11; b++) {
            deal(x);
        }
        x.deny(0, true);
        noteBoth(x, 0, 4, 60, 4, 60);
        x.deny(1, false);
        noteBoth(x, 1, 4, 60, 7, 65);
        x.deny(2, true);
        x.note(2, true, 5, 55);
        x.deny(3, true);
        x.note(3, false, 5, 55);
        x.deny(4, false);
        x.note(4, false, 6, 56);
        x.deny(5, false);
        x.deny(5, true);
        x.note(5, true, 6, 56);
        x.deny(6, true);
        x.deny(6, false);
        x.note(6, true, 99, 9999);
        x.deny(7, true);
        noteBoth(x, 8, 1, 1, 1, 1);
        x.note(9, true, 1, 1);
        x.note(9, true, 3, 3);
        x.deny(9, true);
        x.deny(10, false);
        noteBoth(x, 10, 8, 60, 3, 60);
        x.pass(1);
        int[][] wants = {{4, 60, 1}, {4, 62, 1}, {5, 55, 1}, {0, 0, 1}, {6, 56, 1}, {0, 0, 1}, {99, 9999, 1},
            {0, 0, 1}, {9, 50, 0}, {3, 3, 1}, {3, 60, 1}};
        for (int b = 0; b < wants.length; b++) {
            bargain(x, 0, b, 0, 1, 9, 50, 0, wants[b][0], wants[b][1], wants[b][2]);
        }
        Due.is("stood", x.session(0, 5), 8);
        Due.is("met", x.session(0, 4), 11);
        Due.is("the close is of the last, denied or not", x.session(0, 2), 50);
        Due.is("position", x.told(0, 1), 4 + 4 + 5 + 6 + 99 + 9 + 3 + 3);
    }

    private static void noteBoth(RiceHall x, int b, int lots, int price, int lotsOfSeller, int priceOfSeller) {
        Due.is("note", x.note(b, true, lots, price), true);
        Due.is("note", x.note(b, false, lotsOfSeller, priceOfSeller), true);
    }

    private static void bookEdges() {
        RiceHall x = hall(2, "");
        Due.is("note without a session", x.note(0, true, 1, 1), false);
        Due.is("deny without a session", x.deny(0, true), false);
        x.light();
        Due.is("note of none", x.note(0, true, 1, 1), false);
        Due.is("deny of none", x.deny(0, true), false);
        deal(x);
        Due.is("note of 99", x.note(0, true, 99, 9999), true);
        Due.is("note of 100", x.note(0, true, 100, 1), false);
        Due.is("note of 0", x.note(0, true, 0, 1), false);
        Due.is("note at 0", x.note(0, true, 1, 0), false);
        Due.is("note at 10,000", x.note(0, true, 1, 10000), false);
        Due.is("note of none", x.note(1, true, 1, 1), false);
        Due.is("note of none", x.note(-1, true, 1, 1), false);
        Due.is("not denied", x.bargain(0, 0, 7), 0);
        Due.is("deny", x.deny(0, false), true);
        Due.is("denied", x.bargain(0, 0, 7), 1);
        Due.is("deny again", x.deny(0, false), false);
        Due.is("deny by the other side", x.deny(0, true), true);
        Due.is("deny again", x.deny(0, true), false);
        Due.is("deny of none", x.deny(1, true), false);
        Due.is("deny of none", x.deny(-1, true), false);
        x.pass(60);
        Due.is("note behind the end", x.note(0, true, 1, 1), false);
        Due.is("deny behind the end", x.deny(0, true), false);
        x.light();
        Due.is("note of an earlier session", x.note(0, true, 1, 1), false);
    }
}
