/** Halls in which tests begin. */
final class Halls {
    private Halls() {
    }

    /** Persons in the hall's town, and stores. */
    static RiceHall of(int persons, int stores) {
        RiceHall x = new RiceHall();
        for (int p = 0; p < persons; p++) {
            x.person(0);
        }
        for (int s = 0; s < stores; s++) {
            x.store();
        }
        return x;
    }

    /** Towns beside the hall's, without roads. */
    static RiceHall withTowns(int more) {
        RiceHall x = new RiceHall();
        for (int t = 0; t < more; t++) {
            x.town();
        }
        return x;
    }

    /** Persons with these coins, under rules told in the hall. */
    static RiceHall ruled(String rules, int... coins) {
        RiceHall x = of(coins.length, 0);
        for (int p = 0; p < coins.length; p++) {
            if (coins[p] > 0) {
                x.pay(p, coins[p]);
            }
        }
        if (!rules.isEmpty()) {
            Due.is("rules: " + rules, Due.rules(x, 0, rules), 0);
        }
        return x;
    }

    /** One buys lots of another at a price: two cries that meet, or one that meets what stands already. */
    static void deal(RiceHall x, int buyer, int seller, int lots, int price) {
        x.cry(seller, false, lots, price);
        x.cry(buyer, true, lots, price);
    }

    /** A session of a minute, if its rules burn it all at once, with one bargain. */
    static void close(RiceHall x, int buyer, int seller, int lots, int price) {
        x.light();
        deal(x, buyer, seller, lots, price);
        x.pass(1);
        Due.is("the close", x.session(x.count(4) - 1, 2), price);
    }

    /** Passes until a minute. */
    static void passTo(RiceHall x, int minute) {
        while (x.count(0) < minute) {
            if (x.pass(Math.min(3000, minute - x.count(0))) < 0) {
                return;
            }
        }
    }

    static void coins(RiceHall x, long... wants) {
        for (int p = 0; p < wants.length; p++) {
            Due.is("coins(" + p + ")", x.coins(p), wants[p]);
        }
    }

    static void told(RiceHall x, int what, long... wants) {
        for (int p = 0; p < wants.length; p++) {
            Due.is("told(" + p + ", " + what + ")", x.told(p, what), wants[p]);
        }
    }
}
