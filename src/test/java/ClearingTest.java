/** Promises 16 to 19, 40 and 41, and what a close does: told, coins, pay, draw, count, sum. */
public final class ClearingTest {
    private ClearingTest() {
    }

    public static void main(String[] args) {
        payAndDraw();
        drawAtNeed();
        toldEdges();
        needAtMost();
        clearing();
        calledAndNotAnyMore();
        closedOut();
        closedOutWithNothing();
        graceZero();
        failedAndBorne();
        partsByRemainders();
        moreThanAllHave();
        longProducts();
        settles();
        settlesAllThatIsCalled();
        asksWithTheNewClose();
        counts();
        Due.end();
    }

    private static RiceHall hall(String rules, int... coins) {
        RiceHall x = new RiceHall();
        for (int p = 0; p < coins.length; p++) {
            x.person(0);
            if (coins[p] > 0) {
                Due.is("pay(" + p + ", " + coins[p] + ")", x.pay(p, coins[p]), true);
            }
        }
        Due.is(rules, Due.rules(x, 0, rules), 0);
        return x;
    }

    /** A session of a minute, in which one buys lots of another at a price. */
    private static void session(RiceHall x, int buyer, int seller, int lots, int price) {
        x.light();
        x.cry(seller, false, lots, price);
        Due.is("a cry that meets", x.cry(buyer, true, lots, price), 1);
        x.pass(1);
        Due.is("the close", x.count(6), price);
    }

    private static void coins(RiceHall x, long... wants) {
        for (int p = 0; p < wants.length; p++) {
            Due.is("coins(" + p + ")", x.coins(p), wants[p]);
        }
        Due.is("sum(2)", x.sum(2), x.sum(0) - x.sum(1));
    }

    private static void told(RiceHall x, int what, int... wants) {
        for (int p = 0; p < wants.length; p++) {
            Due.is("told(" + p + ", " + what + ")", x.told(p, what), wants[p]);
        }
    }

    private static void payAndDraw() {
        RiceHall x = new RiceHall();
        Due.is("pay of nobody", x.pay(0, 1), false);
        x.person(0);
        Due.is("pay 0", x.pay(0, 0), false);
        Due.is("pay -1", x.pay(0, -1), false);
        Due.is("pay 100,000", x.pay(0, 100000), false);
        Due.is("pay of the house", x.pay(-1, 5), false);
        Due.is("pay 99,999", x.pay(0, 99999), true);
        Due.is("pay 1", x.pay(0, 1), true);
        Due.is("coins(0)", x.coins(0), 100000);
        Due.is("draw 100,000", x.draw(0, 100000), false);
        Due.is("draw 0", x.draw(0, 0), false);
        Due.is("draw -5", x.draw(0, -5), false);
        Due.is("draw of nobody", x.draw(1, 5), false);
        Due.is("draw 99,999", x.draw(0, 99999), true);
        Due.is("draw 2 of 1", x.draw(0, 2), false);
        Due.is("draw 1 of 1", x.draw(0, 1), true);
        Due.is("coins(0)", x.coins(0), 0);
        Due.is("coins(1)", x.coins(1), -1000000000000L);
        Due.is("coins(-2)", x.coins(-2), -1000000000000L);
        Due.is("sum(0)", x.sum(0), 100000);
        Due.is("sum(1)", x.sum(1), 100000);
        Due.is("sum(2)", x.sum(2), 0);
        Due.is("sum(3)", x.sum(3), -1);
        Due.is("sum(-1)", x.sum(-1), -1);
    }

    private static void drawAtNeed() {
        RiceHall x = hall("burn 600;margin 7;if wind=1 margin 8;", 1000, 1000);
        session(x, 0, 1, 10, 100);
        Due.is("NEED of who bought", x.told(0, 6), 70);
        Due.is("NEED of who sold", x.told(1, 6), 70);
        Due.is("draw too much", x.draw(1, 931), false);
        Due.is("draw so that NEED is left", x.draw(1, 930), true);
        x.wind(1);
        Due.is("NEED by the margin NOW", x.told(0, 6), 80);
        Due.is("draw too much", x.draw(0, 921), false);
        Due.is("draw so that NEED is left", x.draw(0, 920), true);
    }

    private static void toldEdges() {
        RiceHall x = new RiceHall();
        Due.is("told(0, 0)", x.told(0, 0), -100000000);
        x.person(0);
        told(x, 0, 0);
        told(x, 1, 0);
        told(x, 2, 0);
        told(x, 3, -1);
        told(x, 4, 0);
        told(x, 5, 0);
        told(x, 6, 0);
        int none = -100000000;
        int[] whats = {-1, 7, 8, 9, 10, 14, Integer.MAX_VALUE, Integer.MIN_VALUE};
        for (int what : whats) {
            told(x, what, none, none);
        }
        for (int s = 0; s < 4; s++) {
            x.store();
        }
        told(x, 10, 0, none);
        told(x, 13, 0, none);
        told(x, 14, none, none);
        told(x, 9, none, none);
        Due.is("told(-1, 0)", x.told(-1, 0), none);
    }

    private static void needAtMost() {
        RiceHall x = hall("burn 600;margin 0;settle 99;", 0, 0);
        x.light();
        // 205 bargains of 99 lots, in sessions of at most 30
        int bargains = 0;
        for (int s = 0; s < 7; s++) {
            for (int b = 0; b < 30 && bargains < 205; b++) {
                x.cry(0, true, 1, 1);
                x.cry(1, false, 1, 1);
                x.note(b, true, 99, 1);
                x.deny(b, true);
                bargains++;
            }
            x.pass(1);
            x.light();
        }
        told(x, 1, 99 * 205, -99 * 205);
        Due.rules(x, 0, "margin 98546;");
        told(x, 6, 99 * 205 * 98546, 99 * 205 * 98546);
        Due.rules(x, 0, "margin 98547;");
        told(x, 6, 2000000000, 2000000000);
    }

    private static void clearing() {
        RiceHall x = hall("burn 600;margin 0;settle 99;", 1000, 1000, 1000);
        session(x, 0, 1, 3, 100);
        coins(x, 1000, 1000, 1000);
        session(x, 2, 0, 5, 110);
        coins(x, 1030, 970, 1000);
        told(x, 1, -2, -3, 5);
        x.light();
        // bargains at 100 and 105, the close is 105
        x.cry(1, false, 2, 100);
        x.cry(0, true, 1, 100);
        x.cry(1, false, 2, 105);
        x.cry(0, true, 2, 120);
        x.pass(1);
        Due.is("the last one's price", x.count(6), 105);
        told(x, 1, 1, -6, 5);
        // POSITION times -5, and for lots at 100 times 5
        coins(x, 1030 + 10 + 10, 970 + 15 - 10, 1000 - 25);
    }

    private static void calledAndNotAnyMore() {
        RiceHall x = hall("burn 600;margin 10;settle 99;", 100, 1000, 1000);
        session(x, 0, 1, 10, 500);
        told(x, 3, -1, -1, -1);
        session(x, 2, 1, 1, 499);
        told(x, 3, 2, -1, -1);
        x.pass(10);
        session(x, 2, 1, 1, 499);
        told(x, 3, 2, -1, -1);
        x.light();
        Due.is("who is CALLED cries nothing", x.cry(0, true, 1, 1), -4);
        Due.is("it doesn't count", x.session(3, 3), 0);
        x.pass(1);
        x.pay(0, 10);
        told(x, 3, 2, -1, -1);
        session(x, 2, 1, 1, 499);
        told(x, 3, -1, -1, -1);
        session(x, 2, 1, 1, 498);
        told(x, 3, 16, -1, -1);
        told(x, 4, 0, 0, 0);
    }

    private static void closedOut() {
        RiceHall x = hall("burn 600;margin 10;grace 5;settle 99;", 100, 1000, 1000);
        session(x, 0, 1, 10, 500);
        session(x, 2, 1, 1, 499);
        told(x, 3, 2, -1, -1);
        x.pass(3);
        session(x, 2, 1, 1, 499);
        told(x, 3, 2, -1, -1);
        told(x, 1, 10, -12, 2);
        session(x, 2, 1, 1, 498);
        Due.is("NOW", x.count(0), 7);
        told(x, 3, -1, -1, -1);
        told(x, 4, 1, 0, 0);
        told(x, 5, 0, 0, 0);
        told(x, 1, 0, -13, 3);
        Due.is("the HOUSE's POSITION", x.count(8), 10);
        coins(x, 80, 1022, 998);
        session(x, 2, 1, 1, 508);
        Due.is("the FUND by its own POSITION", x.coins(-1), 100);
        coins(x, 80, 1022 - 130, 998 + 30);
    }

    private static void graceZero() {
        RiceHall x = hall("burn 600;margin 10;grace 0;settle 99;", 10, 1000, 1000);
        session(x, 0, 1, 10, 500);
        told(x, 3, 1, -1, -1);
        told(x, 4, 0, 0, 0);
        session(x, 2, 1, 1, 500);
        told(x, 4, 1, 0, 0);
        told(x, 3, -1, -1, -1);
    }

    private static void closedOutWithNothing() {
        RiceHall x = hall("burn 600;margin 10;grace 1;settle 99;", 100, 1000, 1000);
        session(x, 0, 1, 11, 500);
        told(x, 3, 1, -1, -1);
        session(x, 2, 1, 1, 500);
        told(x, 4, 1, 0, 0);
        session(x, 0, 1, 10, 500);
        session(x, 2, 1, 1, 490);
        told(x, 3, 4, -1, -1);
        session(x, 2, 1, 1, 490);
        coins(x, 0);
        told(x, 4, 2, 0, 0);
        told(x, 5, 0, 0, 0);
    }

    private static void failedAndBorne() {
        RiceHall x = hall("burn 600;margin 10;grace 1;settle 99;", 10, 1000, 500);
        session(x, 0, 1, 10, 500);
        told(x, 3, 1, -1, -1);
        session(x, 2, 1, 1, 400);
        told(x, 4, 1, 0, 0);
        told(x, 5, 1, 0, 0);
        told(x, 3, -1, -1, -1);
        // 990 are borne by 2,000 and 500: 792 and 198
        Due.is("the FUND", x.coins(-1), 0);
        coins(x, 0, 1208, 302);
        Due.is("the HOUSE's POSITION", x.count(8), 10);
    }

    private static void partsByRemainders() {
        RiceHall x = hall("burn 600;margin 0;grace 1;settle 99;", 0, 7, 7, 7, 0);
        session(x, 0, 4, 1, 500);
        // the seller gains 10, the buyer lacks 10
        session(x, 0, 4, 1, 490);
        told(x, 3, 2, -1, -1, -1, -1);
        session(x, 1, 2, 1, 490);
        told(x, 5, 1, 0, 0, 0, 0);
        // 10 times 7 by 31 is 2 and 8 over; 10 times 10 by 31 is 3 and 7 over; one is left: to the first of the sevens
        coins(x, 0, 4, 5, 5, 7);
        Due.is("the FUND", x.coins(-1), 0);
    }

    private static void moreThanAllHave() {
        RiceHall x = hall("burn 600;margin 0;grace 1;settle 99;", 0, 0, 3);
        session(x, 0, 1, 50, 100);
        session(x, 0, 1, 1, 90);
        told(x, 3, 2, -1, -1);
        coins(x, -500, 500, 3);
        // now the seller owes, too: 51 lots times 20
        session(x, 2, 1, 1, 110);
        told(x, 5, 0, 0, 0);
        coins(x, 520, -520, 3);
        told(x, 3, -1, 3, -1);
        session(x, 2, 0, 1, 130);
        told(x, 5, 0, 1, 0);
        Due.is("the FUND", x.coins(-1), 0);
        // 1,540 (520 and 51 times 20) and 23 have borne 1,560 of 1,563
        coins(x, 1540 - 1537, 0, 23 - 23);
    }

    /** As many lots as sessions can hold change from the least price to the greatest; the model parts exactly. */
    private static void longProducts() {
        RiceHall x = new RiceHall();
        Model m = new Model();
        String rules = "burn 600;margin 0;settle 99;grace 1;";
        for (int p = 0; p < 6; p++) {
            x.person(0);
            m.person(0);
            x.pay(p, 7919 * (p + 1));
            m.pay(p, 7919 * (p + 1));
        }
        Due.rules(x, 0, rules);
        m.tape.append(rules);
        m.rules(0, rules.length());
        for (int s = 0; s < 18; s++) {
            x.light();
            m.light();
            manyLots(x, m, s);
        }
        int[] prices = {9999, 9998, 9997};
        for (int price : prices) {
            x.light();
            m.light();
            x.cry(4, true, 1, price);
            m.cry(4, true, 1, price);
            x.cry(5, false, 1, price);
            m.cry(5, false, 1, price);
            x.pass(1);
            m.pass(1);
        }
        Due.is("FAILED", x.told(1, 5), 1);
        Due.is("the FUND", x.coins(-1), m.coins(-1));
        for (int p = 0; p < 6; p++) {
            Due.is("coins(" + p + ")", x.coins(p), m.coins(p));
        }
        Due.is("the HOUSE took them all", x.count(8), -99 * 56 * 18);
    }

    private static void manyLots(RiceHall x, Model m, int session) {
        for (int c = 0; c < 58; c++) {
            boolean full = c == 0 || c == 29;
            int person = full ? session % 3 == 0 ? 2 : 0 : 1;
            x.cry(person, full, full ? 28 : 1, 1);
            m.cry(person, full, full ? 28 : 1, 1);
        }
        for (int b = 0; b < m.on.deals.size(); b++) {
            x.note(b, true, 99, 1);
            m.note(b, true, 99, 1);
            x.deny(b, true);
            m.deny(b, true);
        }
        x.pass(1);
        m.pass(1);
    }

    private static void settles() {
        RiceHall x = hall("burn 600;margin 10;settle 2;", 10, 1000, 1000);
        session(x, 0, 1, 10, 500);
        told(x, 1, 10, -10, 0);
        told(x, 3, 1, -1, -1);
        session(x, 2, 1, 1, 510);
        told(x, 1, 0, 0, 0);
        told(x, 3, -1, -1, -1);
        coins(x, 110, 900, 1000);
        session(x, 2, 1, 1, 600);
        coins(x, 110, 900, 1000);
        told(x, 1, 0, -1, 1);
        session(x, 2, 1, 1, 601);
        coins(x, 110, 899, 1001);
        told(x, 1, 0, 0, 0);
        Due.is("count(5)", x.count(5), 4);
    }

    private static void settlesAllThatIsCalled() {
        RiceHall x = hall("burn 600;margin 10;grace 1;settle 3;", 10, 1000, 1000);
        session(x, 0, 1, 10, 500);
        session(x, 2, 1, 1, 500);
        Due.is("the HOUSE's POSITION", x.count(8), 10);
        session(x, 0, 1, 10, 500);
        told(x, 1, 0, 0, 0);
        told(x, 3, -1, -1, -1);
        told(x, 4, 1, 0, 0);
        Due.is("the HOUSE's POSITION", x.count(8), 0);
        session(x, 2, 1, 1, 400);
        Due.is("the FUND", x.coins(-1), 0);
    }

    private static void asksWithTheNewClose() {
        RiceHall x = hall("burn 600;margin 0;settle 9;if close=50 margin 100;if sessions=2 settle 1;", 10, 10);
        session(x, 0, 1, 1, 50);
        told(x, 3, 1, 1);
        told(x, 1, 1, -1);
        x.person(0);
        x.person(0);
        session(x, 2, 3, 1, 49);
        told(x, 3, -1, -1, -1, -1);
        told(x, 1, 0, 0, 0, 0);
        coins(x, 9, 11, 0, 0);
    }

    private static void counts() {
        RiceHall x = hall("burn 600;", 100, 100);
        x.town();
        x.store();
        x.wind(3);
        x.issue(0, 0, 5, 0);
        x.call(0, 0, 2);
        session(x, 0, 1, 1, 77);
        x.light();
        x.feed(0, 0, 0, 0, 0);
        int[] wants = {1, 2, 2, 1, 2, 1, 77, 3, 0, 1, 1, 1, 20, 1};
        for (int what = 0; what < wants.length; what++) {
            Due.is("count(" + what + ")", x.count(what), wants[what]);
        }
        Due.is("count(14)", x.count(14), -100000000);
        Due.is("count(-1)", x.count(-1), -100000000);
    }
}
