/** Promises 35 and 36: owe, fails. */
public final class FailTest {
    private FailTest() {
    }

    public static void main(String[] args) {
        debts();
        rounds();
        sameRound();
        circle();
        asManyRoundsAsPersons();
        paperAndShare();
        coinsBelow();
        Due.end();
    }

    private static RiceHall hall(int... coins) {
        RiceHall x = new RiceHall();
        for (int p = 0; p < coins.length; p++) {
            x.person(0);
            x.pay(p, coins[p]);
        }
        return x;
    }

    private static void fails(RiceHall x, int what, int... wants) {
        for (int p = 0; p < wants.length; p++) {
            Due.is("fails(" + p + ", " + what + ")", x.fails(p, what), wants[p]);
        }
    }

    private static void debts() {
        RiceHall x = hall(5, 0);
        Due.is("owe(0, 0, 1)", x.owe(0, 0, 1), false);
        Due.is("owe(0, 2, 1)", x.owe(0, 2, 1), false);
        Due.is("owe(-1, 0, 1)", x.owe(-1, 0, 1), false);
        Due.is("owe(0, 1, -1)", x.owe(0, 1, -1), false);
        Due.is("owe(0, 1, 100000)", x.owe(0, 1, 100000), false);
        Due.is("owe(0, 1, 99999)", x.owe(0, 1, 99999), true);
        fails(x, 0, 1, 0);
        fails(x, 1, 0, 100);
        Due.is("in place of what was", x.owe(0, 1, 5), true);
        fails(x, 0, 0, 0);
        Due.is("owe(0, 1, 6)", x.owe(0, 1, 6), true);
        fails(x, 0, 1, 0);
        fails(x, 1, 83, 100);
        Due.is("owe(0, 1, 0)", x.owe(0, 1, 0), true);
        fails(x, 2, 0, 0, -1);
        fails(x, 3, 0, 0, -1);
        fails(x, 4, -1, -1);
        fails(x, -1, -1, -1);
        Due.is("fails(2, 0)", x.fails(2, 0), -1);
        Due.is("fails(-1, 2)", x.fails(-1, 2), -1);
    }

    private static void rounds() {
        RiceHall x = hall(50, 0, 0, 10);
        x.owe(0, 1, 100);
        x.owe(1, 2, 100);
        x.owe(2, 3, 99);
        x.owe(3, 0, 9);
        // 0 has 59 of 100 in round 1; then 1 has 59 of 100, then 2 has 59 of 99; 3 has enough
        fails(x, 0, 1, 2, 3, 0);
        fails(x, 1, 59, 59, 59, 100);
        fails(x, 2, 3, 3, 3, 3);
        fails(x, 3, 3, 3, 3, 3);
    }

    private static void sameRound() {
        RiceHall x = hall(10, 5, 0);
        x.owe(0, 1, 20);
        x.owe(1, 2, 40);
        // debts of one that fails in the same round count whole: 25 of 40
        fails(x, 0, 1, 1, 0);
        fails(x, 1, 50, 62, 100);
        fails(x, 3, 1, 1, 1);
        // of each debt the parts are cut: 7 times 50 by 100 is 3
        RiceHall y = hall(7, 0);
        y.person(0);
        y.owe(0, 1, 7);
        y.owe(0, 2, 7);
        y.owe(1, 2, 4);
        fails(y, 0, 1, 2, 0);
        fails(y, 1, 50, 75, 100);
    }

    private static void circle() {
        RiceHall x = hall(0, 0, 0);
        x.pay(0, 1);
        x.owe(0, 1, 10);
        x.owe(1, 2, 10);
        x.owe(2, 0, 10);
        fails(x, 2, 0, 0, 0);
        x.owe(0, 2, 2);
        // 11 of 12: 91 hundredths; then 9 of 10; then what it's owed: 9 and 1 of 10
        fails(x, 0, 1, 2, 0);
        fails(x, 1, 91, 90, 100);
    }

    private static void asManyRoundsAsPersons() {
        RiceHall x = hall(0, 0);
        x.owe(0, 1, 150);
        x.owe(1, 0, 100);
        // 100 of 150: 66 hundredths; so 150 are 99, of 100
        fails(x, 0, 1, 2);
        fails(x, 1, 66, 99);
        fails(x, 2, 2, 2);
        fails(x, 3, 2, 2);
    }

    private static void paperAndShare() {
        RiceHall x = hall(1000, 1000, 0);
        Due.rules(x, 0, "burn 600;");
        x.store();
        x.store();
        x.issue(0, 2, 30, 0);
        x.issue(1, 2, 10, 0);
        x.come(0, 10);
        x.come(1, 99);
        x.owe(2, 0, 1000);
        fails(x, 1, 100, 100, 0);
        x.light();
        x.cry(0, true, 1, 7);
        x.cry(1, false, 1, 7);
        x.pass(1);
        // 30 times 7 times 33 by 100 is 69; 10 times 7 whole is 70
        Due.is("SHARE", x.storeOf(0, 7), 33);
        fails(x, 1, 100, 100, 13);
        x.owe(2, 0, 139);
        fails(x, 2, 0);
        x.owe(2, 0, 140);
        fails(x, 2, 1);
        // served paper is none any more: 30 times 7 times 33 by 100 alone
        x.call(2, 1, 10);
        x.owe(2, 0, 69);
        fails(x, 2, 0);
        x.owe(2, 0, 70);
        fails(x, 2, 1);
    }

    private static void coinsBelow() {
        RiceHall x = hall(50, 1000, 1000);
        Due.rules(x, 0, "burn 600;settle 99;");
        int[] prices = {100, 90};
        for (int price : prices) {
            x.light();
            x.cry(1, false, 10, price);
            x.cry(price == 100 ? 0 : 2, true, 10, price);
            x.pass(1);
        }
        Due.is("coins(0)", x.coins(0), -50);
        x.owe(1, 0, 30);
        x.owe(0, 2, 10);
        fails(x, 0, 1, 0, 0);
        fails(x, 1, 50, 100, 100);
    }
}
