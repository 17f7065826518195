import java.math.BigInteger;

/** Each edge that the document names of the clearing and of coins (==== 5, promises 16 to 19, 40 and 41). */
public final class EdgeClearingTest {
    private EdgeClearingTest() {
    }

    public static void main(String[] args) {
        positionTimesTheMove();
        houseWithItsOwn();
        bargainsEntered();
        bargainsAsTheyStood();
        needOfEitherSide();
        needAtLeast();
        needOfNothing();
        graceOrMore();
        graceAsToldNow();
        graceOfNone();
        houseTakesThePosition();
        coinsBelowBecomeNone();
        calledFromNow();
        notCalledAnyMore();
        fundBelow();
        asMuchAsLacks();
        atMostAll();
        nobodyHasAny();
        onlyCoinsAbove();
        restToRemainders();
        restToTheLeast();
        restOfSixteen();
        longProduct();
        settleEdge();
        settleOfEach();
        settleBehindTheRest();
        drawnSoThatNeedIsLeft();
        toldPromise();
        toldNeedAtMost();
        coinsPromise();
        payPromise();
        drawPromise();
        countPromise();
        sumPromise();
        Due.end();
    }

    private static void positionTimesTheMove() {
        Doc.says("to each PERSON POSITION times (CLOSE less the CLOSE ahead) in COINS");
        RiceHall x = Halls.ruled("burn 600;margin 0;settle 99;", 0, 0, 0, 0);
        Halls.close(x, 0, 1, 50, 9999);
        Halls.coins(x, 0, 0);
        x.light();
        x.pass(1);
        Halls.close(x, 2, 3, 1, 1);
        Halls.coins(x, -50 * 9998, 50 * 9998, 0, 0);
        Halls.close(x, 2, 3, 1, 9999);
        Halls.coins(x, 0, 0, 9998, -9998);
        Halls.told(x, 1, 50, -50, 2, -2);
    }

    private static void houseWithItsOwn() {
        Doc.says("(so to the HOUSE with its own POSITION and FUND);");
        RiceHall x = houseHasOne();
        Due.is("the HOUSE's POSITION", x.count(8), 1);
        x.pay(0, 99);
        x.pay(1, 99);
        Halls.close(x, 0, 1, 1, 507);
        Due.is("the FUND", x.coins(-1), 7);
        Halls.close(x, 0, 1, 1, 500);
        Due.is("the FUND", x.coins(-1), 0);
        Halls.close(x, 0, 1, 1, 501);
        Due.is("the FUND", x.coins(-1), 1);
    }

    /** Persons 0 to 5 without coins; the house has taken a lot of person 3, who had no coins, at 500: no fund. */
    private static RiceHall houseHasOne() {
        RiceHall x = Halls.ruled("burn 600;margin 0;grace 0;settle 99;if wind=1 margin 1;if wind=2 grace 99999;",
                0, 0, 1, 0, 2, 2);
        Halls.close(x, 3, 2, 1, 500);
        x.wind(1);
        Halls.close(x, 4, 5, 1, 500);
        Due.is("CALLED", x.told(3, 3), 2);
        Halls.close(x, 4, 5, 1, 500);
        Due.is("CLOSED OUT", x.told(3, 4), 1);
        Due.is("it didn't fail", x.told(3, 5), 0);
        x.wind(2);
        Due.is("draw", x.draw(2, 1) && x.draw(4, 2) && x.draw(5, 2), true);
        return x;
    }

    /** Persons 0 to 2 with coins, of which the fund took what it lacked when person 3 was closed out. */
    private static RiceHall failed(int lack, int... coins) {
        RiceHall x = Halls.ruled("burn 600;margin 0;grace 0;settle 99;", coins);
        x.person(0);
        x.person(0);
        x.person(0);
        Halls.close(x, 3, 2, 1, 500);
        Halls.close(x, 4, 5, 1, 500 - lack);
        Due.is("CALLED", x.told(3, 3), 2);
        // what person 2 gained is out of the house ahead of the close at which the fund lacks it
        Due.is("draw", x.draw(2, lack), true);
        Halls.close(x, 4, 5, 1, 500 - lack);
        Due.is("FAILED", x.told(3, 5), 1);
        return x;
    }

    private static void bargainsEntered() {
        Doc.says("the buyer's POSITION goes up by its lots and COINS by lots times (CLOSE less its price), the seller's "
                + "go down by as much.");
        RiceHall x = Halls.ruled("burn 600;margin 0;settle 99;", 0, 0, 0, 0);
        x.light();
        Halls.deal(x, 0, 1, 50, 9999);
        Halls.deal(x, 1, 2, 3, 10);
        Halls.deal(x, 2, 3, 1, 1);
        x.pass(1);
        Halls.told(x, 1, 50, -47, -2, -1);
        Halls.coins(x, -50 * 9998, 50 * 9998 - 27, 27, 0);
        Due.is("together", x.sum(2), 0);
    }

    private static void bargainsAsTheyStood() {
        Doc.says("each BARGAIN: the buyer's POSITION goes up by its lots");
        RiceHall x = Halls.ruled("burn 600;margin 0;settle 99;", 0, 0, 0, 0);
        x.light();
        Halls.deal(x, 0, 1, 5, 100);
        x.deny(0, true);
        x.note(0, true, 99, 1);
        Halls.deal(x, 2, 3, 5, 100);
        x.deny(1, true);
        Halls.deal(x, 2, 3, 1, 100);
        x.pass(1);
        Halls.told(x, 1, 99, -99, 1, -1);
        Halls.coins(x, 99 * 99, -99 * 99, 0, 0);
    }

    private static void needOfEitherSide() {
        Doc.says("NEED: MARGIN times lots of POSITION.");
        RiceHall x = Halls.ruled("burn 600;margin 7;settle 99;", 350, 350, 349, 349);
        x.light();
        Halls.deal(x, 0, 1, 50, 100);
        Halls.deal(x, 2, 3, 50, 100);
        x.pass(1);
        Halls.told(x, 6, 350, 350, 350, 350);
        Halls.told(x, 3, -1, -1, 1, 1);
    }

    private static void needAtLeast() {
        Doc.says("COINS of NEED at least: not CALLED any more.");
        RiceHall x = Halls.ruled("burn 600;margin 10;settle 99;", 99, 1000, 1000);
        Halls.close(x, 0, 1, 10, 500);
        Halls.told(x, 3, 1, -1, -1);
        x.pay(0, 1);
        Halls.told(x, 3, 1, -1, -1);
        Halls.close(x, 2, 1, 1, 500);
        Halls.told(x, 3, -1, -1, -1);
        Halls.told(x, 4, 0, 0, 0);
        Due.is("it may cry again", x.light(), 2);
        Due.is("cry", x.cry(0, true, 1, 500), 0);
    }

    private static void needOfNothing() {
        Doc.says("COINS of NEED at least:");
        RiceHall x = Halls.ruled("burn 600;margin 0;settle 2;", 0, 0, 0, 1);
        Halls.close(x, 0, 1, 1, 500);
        Halls.told(x, 3, -1, -1, -1, -1);
        Halls.close(x, 2, 3, 1, 499);
        Halls.coins(x, -1, 1, 0, 1);
        Halls.told(x, 1, 0, 0, 0, 0);
        Halls.told(x, 3, -1, -1, -1, -1);
        Halls.close(x, 2, 3, 1, 499);
        Doc.says("Else CALLED (from NOW on, if it wasn't).");
        Halls.told(x, 3, 3, -1, -1, -1);
        Halls.told(x, 6, 0, 0, 0, 0);
    }

    private static RiceHall called(String grace) {
        RiceHall x = Halls.ruled("burn 600;settle 99;" + grace, 9, 1000, 1000);
        Halls.close(x, 0, 1, 1, 500);
        Halls.told(x, 3, 1, -1, -1);
        return x;
    }

    private static void graceOrMore() {
        Doc.says("Else, if CALLED GRACE minutes ago or more");
        RiceHall x = called("grace 20;");
        x.pass(18);
        Halls.close(x, 2, 1, 1, 500);
        Due.is("19 minutes ago", x.told(0, 4), 0);
        Due.is("CALLED as it was", x.told(0, 3), 1);
        Halls.close(x, 2, 1, 1, 500);
        Due.is("20 minutes ago", x.told(0, 4), 1);
        RiceHall y = called("grace 20;");
        y.pass(2999);
        Halls.close(y, 2, 1, 1, 500);
        Due.is("3,000 minutes ago", y.told(0, 4), 1);
        RiceHall z = called("");
        z.pass(1438);
        Halls.close(z, 2, 1, 1, 500);
        Due.is("untold: 1,439 minutes ago", z.told(0, 4), 0);
        Halls.close(z, 2, 1, 1, 500);
        Due.is("untold: 1,440 minutes ago", z.told(0, 4), 1);
        RiceHall never = called("grace 99999;");
        Halls.passTo(never, 57599);
        Halls.close(never, 2, 1, 1, 500);
        Due.is("a grace longer than all minutes", never.told(0, 4), 0);
    }

    private static void graceAsToldNow() {
        Doc.says("(GRACE as it's told now)");
        RiceHall x = called("grace 1;");
        Due.rules(x, 0, "burn 600;settle 99;grace 5;");
        Halls.close(x, 2, 1, 1, 500);
        Due.is("a longer one", x.told(0, 4), 0);
        Due.rules(x, 0, "burn 600;settle 99;grace 2;");
        Halls.close(x, 2, 1, 1, 500);
        Due.is("a shorter one", x.told(0, 4), 1);
        RiceHall y = called("grace 99;if close=501 grace 1;if sessions=3 grace 99;");
        Halls.close(y, 2, 1, 1, 501);
        Due.is("it gained what it lacked", y.told(0, 3), -1);
        RiceHall z = called("grace 99;if close=499 grace 1;");
        Halls.close(z, 2, 1, 1, 499);
        Due.is("by the new close", z.told(0, 4), 1);
    }

    private static void graceOfNone() {
        Doc.says("Else CALLED (from NOW on, if it wasn't).");
        RiceHall x = called("grace 0;");
        Due.is("not closed out at once", x.told(0, 4), 0);
        Halls.close(x, 2, 1, 1, 500);
        Due.is("but at the next close", x.told(0, 4), 1);
    }

    private static void houseTakesThePosition() {
        Doc.says("CLOSED OUT: the HOUSE takes the POSITION;");
        RiceHall x = Halls.ruled("burn 600;settle 99;grace 1;", 99, 98, 9999);
        x.light();
        Halls.deal(x, 0, 2, 10, 500);
        Halls.deal(x, 2, 1, 10, 500);
        x.pass(1);
        Halls.told(x, 3, 1, 1, -1);
        x.person(0);
        x.pay(3, 9999);
        Halls.close(x, 2, 3, 3, 500);
        Halls.told(x, 1, 0, 0, 3, -3);
        Halls.told(x, 4, 1, 1, 0, 0);
        Halls.told(x, 5, 0, 0, 0, 0);
        Due.is("10 and -10", x.count(8), 0);
        Halls.coins(x, 99, 98);
        RiceHall y = Halls.ruled("burn 600;settle 99;grace 1;", 9999, 0, 9999);
        Halls.close(y, 0, 1, 7, 500);
        Halls.close(y, 0, 2, 1, 500);
        Due.is("of a seller", y.count(8), -7);
    }

    private static void coinsBelowBecomeNone() {
        Doc.says("COINS below 0 become 0, the FUND bears them (FAILED); not CALLED any more.");
        int[][] wants = {{1, 0, 0}, {0, 0, 0}, {-1, 1, 1}, {-2, 1, 2}};
        for (int[] want : wants) {
            RiceHall x = Halls.ruled("burn 600;settle 99;grace 1;", 0, 99999, 99999);
            x.pay(0, 5);
            Halls.close(x, 0, 1, 1, 500);
            Halls.close(x, 2, 1, 1, 495 + want[0]);
            Due.is("CLOSED OUT with " + want[0], x.told(0, 4), 1);
            Due.is("FAILED with " + want[0], x.told(0, 5), want[1]);
            Due.is("COINS", x.coins(0), Math.max(0, want[0]));
            Due.is("CALLED", x.told(0, 3), -1);
            Due.is("the FUND was borne", x.coins(-1), 0);
            Due.is("borne", x.coins(1) + x.coins(2), 2 * 99999 + 5 - want[0] - want[2]);
        }
    }

    private static void calledFromNow() {
        Doc.says("CALLED (from NOW on, if it wasn't)");
        RiceHall x = called("");
        x.pass(100);
        Halls.close(x, 2, 1, 1, 499);
        Due.is("still from then on", x.told(0, 3), 1);
        x.pay(0, 9);
        Halls.close(x, 2, 1, 1, 499);
        Due.is("not any more", x.told(0, 3), -1);
        Halls.close(x, 2, 1, 1, 480);
        Due.is("from NOW on", x.told(0, 3), x.count(0));
    }

    private static void notCalledAnyMore() {
        Doc.says("(FAILED); not CALLED any more.");
        RiceHall x = called("grace 1;");
        Halls.close(x, 2, 1, 1, 400);
        Due.is("FAILED", x.told(0, 5), 1);
        Due.is("not CALLED", x.told(0, 3), -1);
        x.light();
        Due.is("it may cry", x.cry(0, true, 1, 400), 0);
        x.cry(2, false, 1, 400);
        x.pass(1);
        Due.is("CALLED again", x.told(0, 3), 3);
        Halls.close(x, 2, 1, 1, 399);
        Due.is("CLOSED OUT twice", x.told(0, 4), 2);
        Due.is("FAILED twice", x.told(0, 5), 2);
    }

    private static void fundBelow() {
        Doc.says("Then, if the FUND is below 0: all COINS above 0 bear it:");
        RiceHall x = houseHasOne();
        x.pay(0, 100);
        x.pay(1, 50);
        Halls.close(x, 0, 1, 1, 500);
        Due.is("a FUND of 0", x.coins(-1), 0);
        Halls.coins(x, 100, 50);
        Halls.close(x, 0, 1, 1, 501);
        Due.is("a FUND of 1", x.coins(-1), 1);
        Halls.coins(x, 101, 49);
        Halls.close(x, 0, 1, 1, 499);
        // positions of 2: 97 and 53; the fund lacks 1, and of 1 times each by all what 0 has is the greatest
        Due.is("a FUND of -1 is borne", x.coins(-1), 0);
        Halls.coins(x, 96, 53);
    }

    private static void asMuchAsLacks() {
        Doc.says("as much as lacks, at most all of them");
        int[][] wants = {{1, 99}, {50, 50}, {99, 1}, {100, 0}};
        for (int[] want : wants) {
            RiceHall x = failed(want[0], 100, 0, 0);
            Due.is("borne " + want[0], x.coins(0), want[1]);
            Due.is("the FUND", x.coins(-1), 0);
        }
    }

    private static void atMostAll() {
        Doc.says("at most all of them");
        RiceHall x = failed(101, 90, 10, 0);
        Halls.coins(x, 0, 0, 0, 0);
        Due.is("what lacks still", x.coins(-1), -1);
        x.pay(1, 1);
        Due.is("pay changes nothing of it", x.coins(-1), -1);
        Halls.close(x, 4, 5, 1, 399);
        Due.is("borne at the next close", x.coins(1), 0);
        Due.is("the FUND", x.coins(-1), 0);
    }

    private static void nobodyHasAny() {
        Doc.says("all COINS above 0 bear it:");
        RiceHall x = failed(1, 0, 0, 0);
        Halls.coins(x, 0, 0, 0, 0);
        Due.is("the FUND", x.coins(-1), -1);
        x.pay(2, 1);
        Halls.close(x, 4, 5, 1, 499);
        Halls.coins(x, 0, 0, 0, 0);
        Due.is("the FUND", x.coins(-1), 0);
    }

    private static void onlyCoinsAbove() {
        Doc.says("all COINS above 0 bear it");
        RiceHall x = twoOweMore();
        Halls.close(x, 7, 8, 1, 480);
        Halls.told(x, 5, 1, 0, 0, 0, 0);
        Halls.coins(x, 0, -10, 24, -10, 6);
        Due.is("the FUND", x.coins(-1), 0);
        RiceHall y = twoOweMore();
        y.draw(2, 35);
        y.draw(4, 10);
        Halls.close(y, 7, 8, 1, 480);
        Halls.coins(y, 0, -10, 0, -10, 0);
        Due.is("the FUND", y.coins(-1), -15);
    }

    /** Person 0 fails by 20 at the next close; 1 and 3 have less than nothing, but some grace is left to them. */
    private static RiceHall twoOweMore() {
        RiceHall x = Halls.ruled("burn 600;margin 0;grace 2;settle 99;", 0, 10, 0, 0, 0, 0, 0, 0, 0);
        x.light();
        Halls.deal(x, 0, 2, 1, 500);
        Halls.deal(x, 1, 2, 1, 500);
        x.pass(1);
        Halls.close(x, 3, 4, 1, 490);
        Halls.told(x, 3, 2, -1, -1, -1, -1);
        Halls.close(x, 5, 6, 1, 480);
        Halls.coins(x, -20, -10, 40, -10, 10);
        Halls.told(x, 3, 2, 3, -1, 3, -1);
        return x;
    }

    private static void restToRemainders() {
        Doc.says("the rest 1 by 1 to the greatest remainders");
        // 3 of 2, 3 and 5: 6, 9 and 15 by 10
        Halls.coins(failed(3, 2, 3, 5), 1, 2, 4);
        // 7 of 1, 4 and 5: 7, 28 and 35 by 10
        Halls.coins(failed(7, 1, 4, 5), 0, 1, 2);
        // 1 of 1, 2 and 3: 1, 2 and 3 by 6
        Halls.coins(failed(1, 1, 2, 3), 1, 2, 2);
        // 2 of 3, 1 and 2: 6, 2 and 4 by 6
        Halls.coins(failed(2, 3, 1, 2), 2, 1, 1);
        // 4 of 3, 3 and 1: 12, 12 and 4 by 7
        Halls.coins(failed(4, 3, 3, 1), 1, 1, 1);
    }

    private static void restToTheLeast() {
        Doc.says("of several the least PERSON).");
        Halls.coins(failed(1, 1, 1, 1), 0, 1, 1);
        Halls.coins(failed(2, 1, 1, 1), 0, 0, 1);
        Halls.coins(failed(3, 1, 1, 1), 0, 0, 0);
        Halls.coins(failed(1, 0, 5, 5), 0, 4, 5);
        // 4 of 3, 3 and 3: 12 by 9 each, and one is left
        Halls.coins(failed(4, 3, 3, 3), 1, 2, 2);
        // 5 of 3, 3 and 3: 15 by 9 each, and two are left
        Halls.coins(failed(5, 3, 3, 3), 1, 1, 2);
    }

    private static void restOfSixteen() {
        Doc.says("the rest 1 by 1 to the greatest remainders, of several the least PERSON).");
        for (int lack = 1; lack <= 13; lack++) {
            RiceHall x = Halls.ruled("burn 600;margin 0;grace 0;settle 99;", 0, 0, 0, 0, 1, 1, 1, 1, 1, 1, 1, 1, 1, 1, 1, 1);
            Halls.close(x, 0, 1, 1, 500);
            Halls.close(x, 2, 3, 1, 500 - lack);
            x.draw(1, lack);
            Halls.close(x, 2, 3, 1, 500 - lack);
            for (int p = 4; p < 16; p++) {
                Due.is("lack " + lack + ": coins(" + p + ")", x.coins(p), p - 4 < lack ? 0 : 1);
            }
            Due.is("the FUND", x.coins(-1), lack == 13 ? -1 : 0);
        }
    }

    private static void longProduct() {
        Doc.says("(each times that by all, cut, exactly, however long the product;");
        RiceHall x = Halls.ruled("burn 600;margin 0;settle 99;grace 1;", 7919, 0, 99991, 65537, 0, 0);
        for (int s = 0; s < 9; s++) {
            x.light();
            for (int b = 0; b < 28; b++) {
                Halls.deal(x, s % 3 == 0 ? 2 : s % 3 == 1 ? 3 : 0, 1, 50, 1);
                x.note(b, true, 99, 1);
                x.deny(b, true);
            }
            x.pass(1);
        }
        int lots = 9 * 28 * 99;
        Halls.told(x, 1, lots / 3, -lots, lots / 3, lots / 3);
        Halls.close(x, 4, 5, 1, 9999);
        long each = lots / 3 * 9998L;
        long[] before = {7919 + each, 0, 99991 + each, 65537 + each, 0, 0};
        Halls.coins(x, before[0], -3 * each, before[2], before[3], 0, 0);
        long[] wants = parted(before, 3 * each);
        Due.is("the product is longer than a double holds", BigInteger.valueOf(before[0])
                .multiply(BigInteger.valueOf(3 * each)).bitLength() > 53, true);
        Halls.close(x, 4, 5, 1, 9999);
        Due.is("FAILED", x.told(1, 5), 1);
        Halls.coins(x, wants);
        Due.is("the FUND", x.coins(-1), 0);
    }

    private static long[] parted(long[] coins, long lack) {
        BigInteger all = BigInteger.ZERO;
        for (long c : coins) {
            all = all.add(BigInteger.valueOf(c));
        }
        long[] left = coins.clone();
        BigInteger[] over = new BigInteger[coins.length];
        long rest = lack;
        for (int p = 0; p < coins.length; p++) {
            BigInteger[] part = BigInteger.valueOf(coins[p]).multiply(BigInteger.valueOf(lack)).divideAndRemainder(all);
            left[p] -= part[0].longValueExact();
            over[p] = part[1];
            rest -= part[0].longValueExact();
        }
        for (; rest > 0; rest--) {
            int greatest = 0;
            for (int p = 1; p < over.length; p++) {
                greatest = over[p].compareTo(over[greatest]) > 0 ? p : greatest;
            }
            left[greatest]--;
            over[greatest] = BigInteger.ZERO;
        }
        return left;
    }

    private static void settleEdge() {
        Doc.says("Then, if it's the SETTLE-th CLOSE (SESSIONS with a CLOSE modulo SETTLE is 0):");
        int[] settles = {1, 2, 3, 4, 23, 24, 25};
        for (int settle : settles) {
            RiceHall x = Halls.ruled("burn 600;margin 0;settle " + settle + ";", 99999, 99999);
            int lots = 0;
            for (int c = 1; c <= 24; c++) {
                Halls.close(x, 0, 1, 1, 100);
                lots = c % settle == 0 ? 0 : lots + 1;
                Halls.told(x, 1, lots, -lots);
            }
        }
        RiceHall y = Halls.ruled("burn 600;margin 0;settle 2;", 99999, 99999);
        Halls.close(y, 0, 1, 1, 100);
        y.light();
        y.pass(1);
        Due.is("one without a CLOSE isn't counted", y.told(0, 1), 1);
        Halls.close(y, 0, 1, 1, 100);
        Due.is("the second CLOSE", y.told(0, 1), 0);
        RiceHall z = Halls.ruled("burn 600;", 99999, 99999);
        for (int c = 1; c <= 8; c++) {
            Halls.close(z, 0, 1, 1, 100);
            Due.is("untold: the CLOSE " + c, z.told(0, 1), c % 4);
        }
    }

    private static void settleOfEach() {
        Doc.says("all POSITIONS (the HOUSE's, too) are 0, nobody is CALLED.");
        RiceHall x = Halls.ruled("burn 600;settle 3;grace 1;", 0, 1000, 0, 1000);
        Halls.close(x, 0, 1, 1, 500);
        Halls.close(x, 1, 3, 1, 500);
        Due.is("the HOUSE's POSITION", x.count(8), 1);
        Halls.close(x, 2, 3, 1, 500);
        Due.is("the HOUSE's POSITION", x.count(8), 0);
        Halls.told(x, 1, 0, 0, 0, 0);
        Halls.told(x, 3, -1, -1, -1, -1);
        Halls.told(x, 4, 1, 0, 0, 0);
        Halls.close(x, 1, 3, 1, 400);
        Due.is("the FUND", x.coins(-1), 0);
    }

    private static void settleBehindTheRest() {
        Doc.says("Then, if it's the SETTLE-th CLOSE");
        RiceHall x = Halls.ruled("burn 600;settle 2;grace 1;", 0, 1000, 0, 1000);
        Halls.close(x, 0, 1, 1, 500);
        Halls.close(x, 2, 3, 1, 490);
        Due.is("CLOSED OUT ahead of it", x.told(0, 4), 1);
        Due.is("FAILED", x.told(0, 5), 1);
        // 10 are borne by 1,010 and 1,000: 5 and 50 over, 4 and 1,960 over
        Halls.coins(x, 0, 1005, 0, 995);
        Due.is("the HOUSE has none", x.count(8), 0);
    }

    private static void drawnSoThatNeedIsLeft() {
        Doc.says("COINS are PAID in, and DRAWN (so that NEED is left).");
        RiceHall x = Halls.ruled("burn 600;settle 99;if wind=1 margin 11;", 100, 100);
        Halls.close(x, 0, 1, 5, 500);
        for (int p = 0; p < 2; p++) {
            int person = p;
            State.refused(x, "draw(51)", () -> x.draw(person, 51) ? 1 : 0, 0);
            Due.is("draw(50)", x.draw(p, 50), true);
            State.refused(x, "draw(1)", () -> x.draw(person, 1) ? 1 : 0, 0);
        }
        x.pay(0, 6);
        x.wind(1);
        State.refused(x, "by the margin NOW", () -> x.draw(0, 2) ? 1 : 0, 0);
        Due.is("draw(1)", x.draw(0, 1), true);
    }

    private static void toldPromise() {
        Doc.says("0 TOWN, 1 POSITION, 2 BALES, 3 the minute from which it's CALLED (NONE), 4 how often it was CLOSED OUT, "
                + "5 how often it FAILED then, 6 NEED (MARGIN NOW; 2,000,000,000 at most), 10 and s PAPER of store s. "
                + "-100000000: none such.");
        RiceHall x = Halls.withTowns(1);
        int none = -100000000;
        Due.is("told(0, 0)", x.told(0, 0), none);
        Due.rules(x, 0, "burn 600;settle 99;grace 1;margin 3;");
        x.person(1);
        x.person(0);
        x.pay(1, 99999);
        x.person(0);
        x.pay(2, 99999);
        x.store();
        x.store();
        x.issue(1, 0, 30, 0);
        x.come(1, 8);
        x.call(0, 1, 8);
        Halls.close(x, 0, 1, 2, 500);
        Halls.close(x, 2, 1, 1, 400);
        x.pay(0, 5);
        Halls.close(x, 0, 1, 2, 400);
        int[] wants = {1, 2, 8, 3, 1, 1, 6, none, none, none, 0, 22, none, none, none};
        for (int what = 0; what < wants.length; what++) {
            Due.is("told(0, " + what + ")", x.told(0, what), wants[what]);
        }
        Due.is("told(0, -1)", x.told(0, -1), none);
        Due.is("told(3, 0)", x.told(3, 0), none);
        Due.is("told(-1, 0)", x.told(-1, 0), none);
        x.store();
        x.store();
        Due.is("told(0, 13)", x.told(0, 13), 0);
        Due.is("told(0, 14)", x.told(0, 14), none);
    }

    private static void toldNeedAtMost() {
        Doc.says("6 NEED (MARGIN NOW; 2,000,000,000 at most)");
        // 20,000 lots at a margin of 99,999 are 1,999,980,000; each lot more is 99,999 more
        RiceHall x = Halls.ruled("burn 600;margin 0;settle 99;", 0, 0, 99999);
        int bargains = 0;
        for (int s = 0; s < 7; s++) {
            x.light();
            for (int b = 0; b < 29 && bargains < 202; b++) {
                Halls.deal(x, 0, 1, 50, 1);
                x.note(b, true, 99, 1);
                x.deny(b, true);
                bargains++;
            }
            x.pass(1);
        }
        Halls.close(x, 0, 1, 2, 1);
        Halls.told(x, 1, 20000, -20000);
        Due.rules(x, 0, "burn 600;settle 99;if day<1 margin 99999;");
        Halls.told(x, 6, 1999980000, 1999980000);
        Due.rules(x, 0, "burn 600;settle 99;margin 0;if wind=1 margin 99999;");
        Halls.close(x, 0, 1, 1, 1);
        x.wind(1);
        Halls.told(x, 6, 2000000000, 2000000000);
        x.wind(0);
        Halls.told(x, 6, 0, 0);
    }

    private static void coinsPromise() {
        Doc.says("COINS of a PERSON; the FUND (NONE). -1,000,000,000,000: none such.");
        RiceHall x = Halls.of(1, 0);
        long none = -1000000000000L;
        Due.is("coins(0)", x.coins(0), 0);
        Due.is("coins(-1)", x.coins(-1), 0);
        Due.is("coins(1)", x.coins(1), none);
        Due.is("coins(-2)", x.coins(-2), none);
        Due.is("coins(least)", x.coins(Integer.MIN_VALUE), none);
        Due.is("coins(greatest)", x.coins(Integer.MAX_VALUE), none);
        RiceHall y = failed(100, 0, 0, 0);
        Due.is("the FUND", y.coins(-1), -100);
    }

    private static void payPromise() {
        Doc.says("COINS are PAID in (1 to 99,999): true; false: not as told.");
        RiceHall x = Halls.of(1, 0);
        State.refused(x, "0", () -> x.pay(0, 0) ? 1 : 0, 0);
        State.refused(x, "-1", () -> x.pay(0, -1) ? 1 : 0, 0);
        State.refused(x, "100,000", () -> x.pay(0, 100000) ? 1 : 0, 0);
        State.refused(x, "person 1", () -> x.pay(1, 1) ? 1 : 0, 0);
        State.refused(x, "the house", () -> x.pay(-1, 1) ? 1 : 0, 0);
        Due.is("1", x.pay(0, 1), true);
        Due.is("99,999", x.pay(0, 99999), true);
        Halls.coins(x, 100000);
    }

    private static void drawPromise() {
        Doc.says("COINS are DRAWN: true; false, doing nothing: not as told (1 to 99,999), NEED wouldn't be left.");
        RiceHall x = Halls.of(2, 0);
        State.refused(x, "1 of 0", () -> x.draw(0, 1) ? 1 : 0, 0);
        x.pay(0, 99999);
        x.pay(0, 99999);
        State.refused(x, "0", () -> x.draw(0, 0) ? 1 : 0, 0);
        State.refused(x, "-1", () -> x.draw(0, -1) ? 1 : 0, 0);
        State.refused(x, "least", () -> x.draw(0, Integer.MIN_VALUE) ? 1 : 0, 0);
        State.refused(x, "100,000", () -> x.draw(0, 100000) ? 1 : 0, 0);
        State.refused(x, "person 2", () -> x.draw(2, 1) ? 1 : 0, 0);
        State.refused(x, "the house", () -> x.draw(-1, 1) ? 1 : 0, 0);
        State.refused(x, "of another", () -> x.draw(1, 1) ? 1 : 0, 0);
        Due.is("99,999", x.draw(0, 99999), true);
        Due.is("1", x.draw(0, 1), true);
        State.refused(x, "one too many", () -> x.draw(0, 99999) ? 1 : 0, 0);
        Due.is("all", x.draw(0, 99998), true);
        Halls.coins(x, 0, 0);
    }

    private static void countPromise() {
        Doc.says("0 NOW, 1 TOWNS, 2 PERSONS, 3 STORES, 4 SESSIONS, 5 with a CLOSE, 6 the latest CLOSE (0), 7 WIND, 8 the "
                + "HOUSE's POSITION, 9 RULES, 10 ISSUES, 11 waits ever, 12 bytes on the tape, 13 whether a SESSION is on "
                + "(1). -100000000 for others.");
        RiceHall x = houseHasOne();
        x.town();
        x.town();
        x.store();
        x.issue(0, 0, 9, 0);
        x.issue(0, 0, 9, 0);
        x.issue(0, 0, 9, 0);
        x.come(0, 1);
        x.call(0, 0, 1);
        x.call(0, 0, 1);
        x.wind(6);
        x.light();
        x.pass(1);
        x.light();
        x.feed(0, 0, 0, 0, 0);
        int[] wants = {4, 3, 6, 1, 5, 3, 500, 6, 1, 1, 3, 2, 20, 1};
        for (int what = 0; what < wants.length; what++) {
            Due.is("count(" + what + ")", x.count(what), wants[what]);
        }
        int[] odd = {-1, 14, 15, Integer.MAX_VALUE, Integer.MIN_VALUE};
        for (int what : odd) {
            Due.is("count(" + what + ")", x.count(what), -100000000);
        }
        Due.is("no close", new RiceHall().count(6), 0);
    }

    private static void sumPromise() {
        Doc.says("COINS PAID in (what 0), DRAWN (1), those of all and the FUND together (2). NONE for others.");
        RiceHall x = failed(100, 30, 0, 0);
        Due.is("PAID in", x.sum(0), 30);
        Due.is("DRAWN", x.sum(1), 100);
        Due.is("the FUND", x.coins(-1), -70);
        Due.is("together", x.sum(2), -70);
        x.pay(1, 5);
        x.draw(1, 2);
        Due.is("PAID in", x.sum(0), 35);
        Due.is("DRAWN", x.sum(1), 102);
        Due.is("together", x.sum(2), -67);
        int[] odd = {-1, 3, Integer.MAX_VALUE, Integer.MIN_VALUE};
        for (int what : odd) {
            Due.is("sum(" + what + ")", x.sum(what), -1);
        }
    }
}
