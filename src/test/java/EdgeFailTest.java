/** Each edge that the document names of debts, who fails, other closes and margins (==== 6, promises 35 to 39). */
public final class EdgeFailTest {
    private EdgeFailTest() {
    }

    public static void main(String[] args) {
        debtBounds();
        coinsAboveNone();
        paperByShare();
        paperEachCut();
        whatOthersOwe();
        debtsOfOneThatFailed();
        coinsBelowAreDebts();
        belowDebts();
        partsAsTheyAreThen();
        rounds();
        sixteenRounds();
        owePromise();
        failsPromise();
        otherWithItsOwn();
        otherWithTheRefused();
        otherTakenBack();
        otherTakenBackInTime();
        otherFloorAndCeiling();
        otherGap();
        otherNone();
        otherPromise();
        leastUpToK();
        leastTen();
        leastPromise();
        judgedUpToK();
        judgedByMore();
        judgedPromise();
        Due.end();
    }

    private static void fails(RiceHall x, int what, int... wants) {
        for (int p = 0; p < wants.length; p++) {
            Due.is("fails(" + p + ", " + what + ")", x.fails(p, what), wants[p]);
        }
    }

    private static void debtBounds() {
        Doc.says("DEBTS of one PERSON to another, 0 to 99,999.");
        RiceHall x = Halls.of(2, 0);
        State.refused(x, "-1", () -> x.owe(0, 1, -1) ? 1 : 0, 0);
        State.refused(x, "100,000", () -> x.owe(0, 1, 100000) ? 1 : 0, 0);
        Due.is("0", x.owe(0, 1, 0), true);
        fails(x, 0, 0, 0);
        Due.is("99,999", x.owe(0, 1, 99999), true);
        fails(x, 0, 1, 0);
        x.pay(0, 99998);
        fails(x, 0, 1, 0);
        fails(x, 1, 99, 100);
        x.pay(0, 1);
        fails(x, 0, 0, 0);
    }

    private static void coinsAboveNone() {
        Doc.says("ASSETS of a PERSON: COINS above 0;");
        RiceHall x = Halls.ruled("", 1, 0);
        x.owe(0, 1, 1);
        fails(x, 0, 0, 0);
        x.draw(0, 1);
        fails(x, 0, 1, 0);
        fails(x, 1, 0, 100);
    }

    /** Stores with rice and paper of person 2, and a close of 7. */
    private static RiceHall withPaper() {
        RiceHall x = Halls.ruled("burn 600;", 1000, 1000, 0);
        x.store();
        x.store();
        Halls.close(x, 0, 1, 1, 7);
        return x;
    }

    private static void worth(RiceHall x, int worth) {
        x.owe(2, 0, worth);
        Due.is("a debt of " + worth, x.fails(2, 0), 0);
        x.owe(2, 0, worth + 1);
        Due.is("a debt of " + (worth + 1), x.fails(2, 0), 1);
    }

    private static void paperByShare() {
        Doc.says("of each store PAPER times the CLOSE times SHARE by 100, cut;");
        RiceHall x = withPaper();
        worth(x, 0);
        x.issue(0, 2, 100, 0);
        worth(x, 0);
        x.come(0, 1);
        worth(x, 7);
        x.come(0, 98);
        worth(x, 693);
        x.come(0, 1);
        worth(x, 700);
        x.come(0, 100);
        worth(x, 700);
        x.call(2, 0, 100);
        worth(x, 0);
        RiceHall y = Halls.of(3, 1);
        y.issue(0, 2, 100, 0);
        y.come(0, 100);
        worth(y, 0);
        Due.is("without a CLOSE it's worth nothing", y.count(6), 0);
    }

    private static void paperEachCut() {
        Doc.says("SHARE by 100, cut;");
        RiceHall x = withPaper();
        // 3 of 7 at a share of 50: 10.5; 1 of 7 at 33: 2.31; together 12, not 12.81
        x.issue(0, 2, 3, 0);
        x.issue(0, 1, 1, 0);
        x.come(0, 2);
        Due.is("SHARE", x.storeOf(0, 7), 50);
        worth(x, 10);
        x.issue(1, 2, 1, 0);
        x.issue(1, 1, 2, 0);
        x.come(1, 1);
        Due.is("SHARE", x.storeOf(1, 7), 33);
        worth(x, 12);
    }

    private static void whatOthersOwe() {
        Doc.says("what others owe (whole,");
        RiceHall x = Halls.of(4, 0);
        x.owe(0, 3, 10);
        x.owe(1, 3, 10);
        x.pay(0, 10);
        x.pay(1, 10);
        x.owe(3, 2, 20);
        fails(x, 0, 0, 0, 0, 0);
        x.owe(3, 2, 21);
        fails(x, 0, 0, 0, 0, 1);
        fails(x, 1, 100, 100, 100, 95);
    }

    private static void debtsOfOneThatFailed() {
        Doc.says("or of each debt of one that failed in an earlier round its PARTS hundredths, cut).");
        RiceHall x = Halls.of(4, 0);
        // 0 and 1 have 99 of 199 and 1 of 2: 49 and 50 hundredths; of 101 and of 1 that is 49 and 0
        x.pay(0, 99);
        x.owe(0, 2, 101);
        x.owe(0, 3, 98);
        x.pay(1, 1);
        x.owe(1, 2, 1);
        x.owe(1, 3, 1);
        x.owe(2, 3, 49);
        fails(x, 0, 1, 1, 0, 0);
        fails(x, 1, 49, 50, 100, 100);
        x.owe(2, 3, 50);
        fails(x, 0, 1, 1, 2, 0);
        fails(x, 1, 49, 50, 98, 100);
    }

    private static void coinsBelowAreDebts() {
        Doc.says("DEBTS: what it owes, and COINS below 0.");
        RiceHall x = Halls.ruled("burn 600;margin 0;settle 99;", 0, 0, 99, 99);
        Halls.close(x, 0, 1, 1, 500);
        Halls.close(x, 2, 3, 1, 499);
        Halls.coins(x, -1, 1);
        fails(x, 0, 1, 0, 0, 0);
        fails(x, 1, 0, 100, 100, 100);
        x.owe(1, 0, 1);
        fails(x, 0, 0, 0, 0, 0);
        x.owe(0, 2, 1);
        fails(x, 0, 1, 0, 0, 0);
        fails(x, 1, 50, 100, 100, 100);
    }

    private static void belowDebts() {
        Doc.says("In each round (the first is 1) all fail that haven't and whose ASSETS are below DEBTS;");
        RiceHall x = Halls.ruled("", 9, 10, 11);
        for (int p = 0; p < 3; p++) {
            x.owe(p, (p + 1) % 3, 20);
        }
        fails(x, 0, 0, 0, 0);
        RiceHall y = Halls.ruled("", 9, 10, 11, 0);
        for (int p = 0; p < 3; p++) {
            y.owe(p, 3, 10);
        }
        fails(y, 0, 1, 0, 0, 0);
        fails(y, 2, 1, 1, 1, 1);
        y.owe(1, 3, 11);
        y.owe(2, 3, 12);
        fails(y, 0, 1, 1, 1, 0);
        fails(y, 3, 1, 1, 1, 1);
    }

    private static void partsAsTheyAreThen() {
        Doc.says("PARTS of each: ASSETS times 100 by DEBTS, cut, as they are then.");
        RiceHall x = Halls.ruled("", 2, 0, 0);
        x.owe(0, 1, 3);
        fails(x, 1, 66, 100, 100);
        x.owe(0, 1, 99999);
        fails(x, 1, 0, 100, 100);
        // 1 fails in the first round, with what 0 owes whole, though 0 fails, too
        x.owe(0, 1, 100);
        x.owe(1, 2, 150);
        fails(x, 0, 1, 1, 0);
        fails(x, 1, 2, 66, 100);
        // 1 fails in the second round, with 2 hundredths of what 0 owes
        x.owe(1, 2, 100);
        fails(x, 0, 1, 2, 0);
        fails(x, 1, 2, 2, 100);
    }

    private static void rounds() {
        Doc.says("WHO FAILS, in rounds:");
        RiceHall x = Halls.of(4, 0);
        x.owe(0, 1, 2);
        x.pay(0, 1);
        x.owe(1, 2, 2);
        x.owe(2, 3, 2);
        fails(x, 0, 1, 2, 3, 0);
        // 1 of 2: 50 hundredths of 2 are 1, and so on
        fails(x, 1, 50, 50, 50, 100);
        fails(x, 2, 3, 3, 3, 3);
        fails(x, 3, 3, 3, 3, 3);
        x.pay(0, 1);
        fails(x, 0, 0, 0, 0, 0);
        fails(x, 1, 100, 100, 100, 100);
        fails(x, 2, 0, 0, 0, 0);
        fails(x, 3, 0, 0, 0, 0);
    }

    private static void sixteenRounds() {
        Doc.says("WHO FAILS: the round of a PERSON (what 0; 0: never), its PARTS (1; 100 if never), how many fail in all "
                + "(2), rounds in which some do (3).");
        RiceHall x = Halls.of(16, 0);
        for (int p = 0; p < 16; p++) {
            Due.is("never: fails(" + p + ", 0)", x.fails(p, 0), 0);
            Due.is("never: fails(" + p + ", 1)", x.fails(p, 1), 100);
            Due.is("none: fails(" + p + ", 2)", x.fails(p, 2), 0);
            Due.is("none: fails(" + p + ", 3)", x.fails(p, 3), 0);
        }
        // each owes the next as much as it's owed, only the first one more; the last owes the first
        for (int p = 0; p < 16; p++) {
            x.owe(p, (p + 1) % 16, p == 15 ? 99998 : 99999);
        }
        for (int p = 0; p < 16; p++) {
            Due.is("fails(" + p + ", 0)", x.fails(p, 0), p + 1);
            Due.is("fails(" + p + ", 1)", x.fails(p, 1), parts(p));
            Due.is("fails(" + p + ", 2)", x.fails(p, 2), 16);
            Due.is("fails(" + p + ", 3)", x.fails(p, 3), 16);
        }
    }

    /** 99,998 of 99,999 are 99 hundredths; then each has those of what it's owed, and one hundredth less by the cut. */
    private static int parts(int person) {
        int parts = 99;
        for (int p = 1; p <= person; p++) {
            int owed = 99999 * parts / 100;
            parts = owed * 100 / (p == 15 ? 99998 : 99999);
        }
        return parts;
    }

    private static void owePromise() {
        Doc.says("DEBT of one to another (0 to 99,999; in place of what was): true; false: not as told (unlike ones).");
        RiceHall x = Halls.of(2, 0);
        Due.is("5", x.owe(0, 1, 5), true);
        State.refused(x, "to itself", () -> x.owe(0, 0, 5) ? 1 : 0, 0);
        State.refused(x, "to 2", () -> x.owe(0, 2, 5) ? 1 : 0, 0);
        State.refused(x, "to -1", () -> x.owe(0, -1, 5) ? 1 : 0, 0);
        State.refused(x, "of 2", () -> x.owe(2, 0, 5) ? 1 : 0, 0);
        State.refused(x, "of -1", () -> x.owe(-1, 0, 5) ? 1 : 0, 0);
        State.refused(x, "least", () -> x.owe(0, 1, Integer.MIN_VALUE) ? 1 : 0, 0);
        fails(x, 0, 1, 0);
        x.pay(0, 2);
        Due.is("2 in its place", x.owe(0, 1, 2), true);
        fails(x, 0, 0, 0);
        Due.is("none in its place", x.owe(0, 1, 0), true);
        Due.is("the other way", x.owe(1, 0, 1), true);
        fails(x, 0, 0, 1);
    }

    private static void failsPromise() {
        Doc.says("rounds in which some do (3). NONE: none such.");
        RiceHall x = Halls.of(2, 0);
        x.owe(0, 1, 1);
        for (int what = 0; what < 4; what++) {
            Due.is("fails(2, " + what + ")", x.fails(2, what), -1);
            Due.is("fails(-1, " + what + ")", x.fails(-1, what), -1);
        }
        fails(x, 4, -1, -1);
        fails(x, -1, -1, -1);
        fails(x, Integer.MAX_VALUE, -1, -1);
        fails(x, 0, 1, 0);
        fails(x, 1, 0, 100);
    }

    private static RiceHall lit(String rules) {
        RiceHall x = Halls.ruled(rules, 99999, 99999, 99999, 99999);
        x.light();
        return x;
    }

    private static void other(RiceHall x, int floor, int ceiling, int want) {
        int session = x.count(4) - 1;
        Due.is("other(" + session + ", " + floor + ", " + ceiling + ")", x.other(session, floor, ceiling), want);
    }

    private static void otherWithItsOwn() {
        Doc.says("OTHER CLOSE of a SESSION that ended: its CRIES as they came");
        RiceHall x = lit("burn 600;floor 40;ceiling 60;");
        x.cry(0, false, 5, 50);
        x.cry(1, false, 5, 45);
        x.cry(2, true, 7, 55);
        other(x, 40, 60, -1);
        x.pass(1);
        Due.is("the CLOSE", x.session(0, 2), 50);
        other(x, 40, 60, 50);
        other(x, 46, 60, 50);
        other(x, 40, 49, -1);
        Due.is("nothing is another behind it", x.session(0, 4), 2);
        Due.is("the CLOSE", x.session(0, 2), 50);
    }

    private static void otherWithTheRefused() {
        Doc.says("(those refused for their price, too;");
        RiceHall x = lit("burn 600;floor 50;ceiling 60;");
        Due.is("refused", x.cry(0, false, 3, 49), -3);
        Due.is("refused", x.cry(1, true, 1, 61), -3);
        x.cry(2, false, 5, 55);
        x.cry(3, true, 5, 55);
        x.pass(1);
        Due.is("the CLOSE", x.session(0, 2), 55);
        other(x, 50, 60, 55);
        // 0 and 1 meet at 49, then 2 of the last cry meet what is left at 49, and 3 at 55
        other(x, 49, 61, 55);
        other(x, 49, 60, 55);
        other(x, 49, 54, -1);
        // 2 meets what 1 cried at 61, and then 3 meets what is left
        other(x, 50, 61, 55);
        RiceHall y = lit("burn 600;ceiling 60;");
        y.cry(0, true, 50, 61);
        y.cry(1, false, 9, 55);
        y.cry(2, true, 9, 55);
        y.pass(1);
        other(y, 0, 60, 55);
        other(y, 0, 61, 61);
    }

    private static void otherTakenBack() {
        Doc.says("taken back as they were, as far as they stand)");
        RiceHall x = lit("burn 600;ceiling 60;");
        x.cry(0, false, 5, 50);
        Due.is("refused", x.cry(1, true, 3, 61), -3);
        Due.is("back(0)", x.back(0), 5);
        x.cry(2, true, 9, 55);
        x.cry(3, false, 1, 55);
        x.pass(1);
        Due.is("the CLOSE", x.session(0, 2), 55);
        other(x, 0, 60, 55);
        // with the refused one 3 of 5 are met at 50, the 2 that stand are taken back
        other(x, 0, 61, 55);
        other(x, 56, 61, -1);
        other(x, 0, 54, -1);
        RiceHall y = lit("burn 600;ceiling 60;");
        y.cry(0, false, 5, 50);
        y.cry(1, true, 5, 61);
        y.back(0);
        y.cry(2, true, 5, 60);
        y.pass(1);
        Due.is("no CLOSE", y.session(0, 2), -1);
        other(y, 0, 60, -1);
        // all of it was met ahead of its being taken back
        other(y, 0, 61, 50);
        RiceHall z = lit("burn 600;ceiling 60;");
        z.cry(0, true, 5, 61);
        Due.is("what stands for nothing can't be taken back", z.back(0), -1);
        z.cry(1, false, 5, 50);
        z.pass(1);
        other(z, 0, 60, -1);
        other(z, 0, 61, 61);
    }

    private static void otherTakenBackInTime() {
        Doc.says("taken back as they were");
        RiceHall x = lit("burn 600;");
        x.cry(0, false, 5, 50);
        x.cry(1, true, 2, 50);
        Due.is("back(0)", x.back(0), 3);
        x.cry(2, true, 3, 70);
        x.cry(3, false, 3, 60);
        x.pass(1);
        Due.is("the CLOSE", x.session(0, 2), 70);
        other(x, 0, 99999, 70);
        other(x, 0, 60, 50);
        RiceHall y = lit("burn 600;");
        y.cry(0, false, 5, 50);
        y.cry(1, true, 2, 49);
        y.back(1);
        y.back(0);
        y.cry(2, true, 5, 50);
        y.cry(3, false, 5, 49);
        Due.is("taken back behind the last cry", y.back(3), -1);
        y.pass(1);
        Due.is("the CLOSE", y.session(0, 2), 50);
        other(y, 0, 99999, 50);
        other(y, 50, 50, -1);
        other(y, 0, 49, -1);
    }

    private static void otherFloorAndCeiling() {
        Doc.says("with a FLOOR and a CEILING as told, in place of its own;");
        RiceHall x = lit("burn 600;if wind=1 floor 50;");
        x.cry(0, false, 5, 40);
        x.wind(1);
        Due.is("refused now", x.cry(1, true, 5, 45), -3);
        x.wind(0);
        x.cry(2, true, 1, 42);
        x.pass(1);
        other(x, 0, 99999, 40);
        other(x, 40, 45, 40);
        other(x, 40, 42, 40);
        other(x, 41, 45, -1);
        other(x, 40, 41, -1);
        other(x, 45, 40, -1);
        other(x, 0, 0, -1);
        other(x, 99999, 99999, -1);
        RiceHall y = lit("burn 600;");
        Halls.deal(y, 0, 1, 1, 9999);
        y.pass(1);
        other(y, 9999, 9999, 9999);
        other(y, 10000, 99999, -1);
        other(y, 0, 9998, -1);
    }

    private static void otherGap() {
        Doc.says("GAP and the end as they were;");
        RiceHall x = lit("fuse 20;burn 1;gap 5;");
        x.cry(0, false, 9, 50);
        x.pass(14);
        x.cry(1, true, 1, 50);
        x.pass(1);
        x.cry(1, true, 1, 60);
        x.pass(1);
        x.cry(2, true, 1, 70);
        x.pass(4);
        Due.is("ended", x.session(0, 1), 20);
        other(x, 0, 70, 50);
        other(x, 0, 69, 50);
        other(x, 0, 59, -1);
        Due.rules(x, 0, "fuse 20;burn 1;gap 6;");
        other(x, 0, 59, -1);
        x.light();
        x.pass(14);
        Halls.deal(x, 0, 1, 1, 55);
        x.pass(6);
        Due.is("by its own gap", x.session(1, 2), 55);
        other(x, 0, 55, 55);
        Due.is("by its own gap", x.other(0, 0, 59), -1);
    }

    private static void otherNone() {
        Doc.says("as they were; NONE: none.");
        RiceHall x = lit("burn 600;");
        x.pass(1);
        other(x, 0, 99999, -1);
        x.light();
        x.cry(0, true, 1, 5);
        x.cry(0, false, 1, 5);
        x.cry(1, false, 1, 6);
        x.pass(1);
        other(x, 0, 99999, -1);
    }

    private static void otherPromise() {
        Doc.says("OTHER CLOSE (FLOOR, CEILING 0 to 99,999). NONE: none, none such.");
        RiceHall x = Halls.ruled("burn 600;", 99999, 99999);
        Due.is("no session", x.other(0, 0, 99999), -1);
        x.light();
        Halls.deal(x, 0, 1, 1, 5);
        Due.is("it's on", x.other(0, 0, 99999), -1);
        x.pass(1);
        other(x, 0, 99999, 5);
        other(x, -1, 99999, -1);
        other(x, 0, 100000, -1);
        other(x, Integer.MIN_VALUE, Integer.MAX_VALUE, -1);
        other(x, 0, -1, -1);
        other(x, 100000, 99999, -1);
        Due.is("session 1", x.other(1, 0, 99999), -1);
        Due.is("session -1", x.other(-1, 0, 99999), -1);
        x.light();
        Due.is("the earlier one while another is on", x.other(0, 5, 5), 5);
    }

    private static RiceHall closes(int... prices) {
        RiceHall x = Halls.ruled("burn 600;margin 0;settle 1;", 99999, 99999);
        for (int price : prices) {
            Halls.close(x, 0, 1, 1, price);
        }
        return x;
    }

    private static void leastUpToK() {
        Doc.says("LEAST MARGIN for k: the greatest difference of any two CLOSES of which one came up to k CLOSES behind "
                + "the other;");
        RiceHall x = closes(100, 103, 105, 106, 96, 106);
        int[] wants = {10, 10, 10};
        for (int k = 1; k <= 3; k++) {
            Due.is("least(" + k + ")", x.least(k), wants[k - 1]);
        }
        RiceHall y = closes(100, 103, 105, 106);
        int[] up = {3, 5, 6, 6, 6, 6, 6, 6, 6, 6};
        RiceHall z = closes(106, 105, 103, 100);
        int[] down = {3, 5, 6, 6, 6, 6, 6, 6, 6, 6};
        for (int k = 1; k <= 10; k++) {
            Due.is("upwards: least(" + k + ")", y.least(k), up[k - 1]);
            Due.is("downwards: least(" + k + ")", z.least(k), down[k - 1]);
        }
        Due.is("of the first two", closes(50, 90, 91, 92).least(1), 40);
        Due.is("of the last two", closes(92, 91, 90, 50).least(1), 40);
        RiceHall w = Halls.ruled("burn 600;margin 0;settle 1;", 99999, 99999);
        Halls.close(w, 0, 1, 1, 1);
        w.light();
        w.pass(1);
        Halls.close(w, 0, 1, 1, 9999);
        Due.is("a session without a CLOSE between them", w.least(1), 9998);
    }

    private static void leastTen() {
        Doc.says("LEAST MARGIN for k (1 to 10).");
        RiceHall x = closes(1, 5, 5, 5, 5, 5, 5, 5, 5, 5, 9);
        Due.is("nine behind", x.least(9), 4);
        Due.is("ten behind", x.least(10), 8);
        RiceHall y = closes(1, 5, 5, 5, 5, 5, 5, 5, 5, 5, 5, 9);
        Due.is("eleven behind", y.least(10), 4);
        Due.is("judged", y.judged(4, 10), 0);
        Due.is("judged", x.judged(4, 10), 1);
        Due.is("judged", x.judged(4, 9), 0);
    }

    private static void leastPromise() {
        Doc.says("NONE: not as told, fewer than two CLOSES.");
        RiceHall x = closes();
        Due.is("no CLOSE", x.least(1), -1);
        Halls.close(x, 0, 1, 1, 70);
        Due.is("one CLOSE", x.least(1), -1);
        Due.is("one CLOSE", x.least(10), -1);
        Halls.close(x, 0, 1, 1, 70);
        Due.is("two alike", x.least(1), 0);
        Due.is("least(0)", x.least(0), -1);
        Due.is("least(-1)", x.least(-1), -1);
        Due.is("least(10)", x.least(10), 0);
        Due.is("least(11)", x.least(11), -1);
        Due.is("least(greatest)", x.least(Integer.MAX_VALUE), -1);
    }

    private static void judgedUpToK() {
        Doc.says("JUDGED: of a margin, how many CLOSES have one up to k behind that differs from it by more.");
        RiceHall x = closes(100, 100, 100, 120);
        int[] wants = {1, 2, 3, 3};
        for (int k = 1; k <= 4; k++) {
            Due.is("judged(19, " + k + ")", x.judged(19, k), wants[k - 1]);
        }
        // only the first one has others behind it that differ
        RiceHall y = closes(120, 100, 100, 100);
        for (int k = 1; k <= 4; k++) {
            Due.is("judged(19, " + k + ")", y.judged(19, k), 1);
        }
    }

    private static void judgedByMore() {
        Doc.says("that differs from it by more.");
        RiceHall x = closes(100, 110, 100, 99);
        Due.is("judged(0, 1)", x.judged(0, 1), 3);
        Due.is("judged(1, 1)", x.judged(1, 1), 2);
        Due.is("judged(9, 1)", x.judged(9, 1), 2);
        Due.is("judged(10, 1)", x.judged(10, 1), 0);
        Due.is("judged(10, 2)", x.judged(10, 2), 1);
        Due.is("judged(11, 10)", x.judged(11, 10), 0);
    }

    private static void judgedPromise() {
        Doc.says("JUDGED: a margin (0 to 99,999) for k. NONE: not as told.");
        RiceHall x = closes();
        Due.is("no CLOSE", x.judged(0, 1), 0);
        Halls.close(x, 0, 1, 1, 1);
        Due.is("one CLOSE", x.judged(0, 10), 0);
        Halls.close(x, 0, 1, 1, 9999);
        Due.is("judged(0, 1)", x.judged(0, 1), 1);
        Due.is("judged(9997, 10)", x.judged(9997, 10), 1);
        Due.is("judged(9998, 10)", x.judged(9998, 10), 0);
        Due.is("judged(99999, 1)", x.judged(99999, 1), 0);
        Due.is("judged(100000, 1)", x.judged(100000, 1), -1);
        Due.is("judged(-1, 1)", x.judged(-1, 1), -1);
        Due.is("judged(0, 0)", x.judged(0, 0), -1);
        Due.is("judged(0, -1)", x.judged(0, -1), -1);
        Due.is("judged(0, 11)", x.judged(0, 11), -1);
        Due.is("judged(0, greatest)", x.judged(0, Integer.MAX_VALUE), -1);
    }
}
