/** Promises 37 to 39: other, least, judged. */
public final class OtherTest {
    private OtherTest() {
    }

    public static void main(String[] args) {
        edges();
        refusedCriesComeBack();
        takenBackAsTheyWere();
        minuteOfTheLast();
        gapOfItsEnd();
        leastAndJudged();
        Due.end();
    }

    private static RiceHall hall(int persons, String rules) {
        RiceHall x = new RiceHall();
        for (int p = 0; p < persons; p++) {
            x.person(0);
            x.pay(p, 99999);
        }
        Due.is(rules, Due.rules(x, 0, rules), 0);
        return x;
    }

    private static void edges() {
        RiceHall x = hall(2, "burn 600;");
        Due.is("no session", x.other(0, 0, 99999), -1);
        x.light();
        x.cry(0, true, 1, 50);
        x.cry(1, false, 1, 50);
        Due.is("it's on", x.other(0, 0, 99999), -1);
        x.pass(1);
        Due.is("as it was", x.other(0, 0, 99999), 50);
        Due.is("at the floor", x.other(0, 50, 50), 50);
        Due.is("below the floor", x.other(0, 51, 99999), -1);
        Due.is("above the ceiling", x.other(0, 0, 49), -1);
        Due.is("floor 100,000", x.other(0, 100000, 99999), -1);
        Due.is("floor -1", x.other(0, -1, 99999), -1);
        Due.is("ceiling 100,000", x.other(0, 0, 100000), -1);
        Due.is("ceiling -1", x.other(0, 0, -1), -1);
        Due.is("session -1", x.other(-1, 0, 99999), -1);
        Due.is("session 1", x.other(1, 0, 99999), -1);
    }

    private static void refusedCriesComeBack() {
        RiceHall x = hall(3, "burn 600;floor 40;ceiling 60;");
        x.light();
        x.cry(0, false, 5, 30);
        x.cry(1, false, 5, 50);
        x.cry(2, true, 5, 55);
        x.pass(1);
        Due.is("the close", x.session(0, 2), 50);
        Due.is("with its own floor", x.other(0, 40, 60), 50);
        Due.is("with the one that was refused", x.other(0, 0, 60), 30);
        Due.is("what it was stays", x.session(0, 4), 1);
        x.light();
        x.cry(0, false, 5, 30);
        x.cry(1, true, 7, 30);
        x.pass(1);
        Due.is("no close", x.session(1, 2), -1);
        Due.is("another close", x.other(1, 30, 30), 30);
        Due.is("and once more", x.other(1, 30, 30), 30);
        Due.is("none of the other session", x.other(0, 31, 49), -1);
    }

    private static void takenBackAsTheyWere() {
        RiceHall x = hall(3, "burn 600;floor 40;");
        x.light();
        x.cry(0, false, 5, 50);
        x.cry(2, false, 9, 60);
        x.back(0);
        x.cry(1, true, 3, 70);
        Due.is("refused", x.cry(0, true, 50, 30), -3);
        x.cry(2, false, 2, 45);
        Due.is("nothing to take back of the refused one", x.back(3), -1);
        x.cry(1, false, 1, 30);
        x.pass(1);
        Due.is("the close", x.session(0, 2), 60);
        Due.is("with the refused one", x.other(0, 0, 99999), 30);
        Due.is("as it was", x.other(0, 40, 99999), 60);
        Due.is("without the second", x.other(0, 0, 59), 30);
        // with a floor of 61 only the cry to buy stands
        Due.is("with a floor of 61", x.other(0, 61, 99999), -1);
        x.light();
        x.cry(0, false, 5, 50);
        x.cry(1, true, 5, 45);
        x.back(1);
        x.cry(2, true, 1, 50);
        x.cry(2, false, 1, 45);
        x.pass(1);
        Due.is("the close", x.session(1, 2), 50);
        Due.is("it's taken back all the same", x.other(1, 0, 49), -1);
    }

    private static void minuteOfTheLast() {
        RiceHall x = hall(3, "fuse 20;burn 1;gap 5;");
        x.light();
        x.cry(0, false, 5, 50);
        x.cry(1, true, 2, 50);
        x.pass(16);
        x.cry(2, true, 2, 80);
        x.pass(4);
        Due.is("the close", x.session(0, 2), 50);
        Due.is("the last that meets came too early", x.other(0, 0, 60), -1);
        x.light();
        x.cry(0, false, 5, 50);
        x.pass(15);
        x.cry(1, true, 2, 60);
        x.pass(5);
        Due.is("the last minute that counts", x.other(1, 0, 60), 50);
    }

    private static void gapOfItsEnd() {
        RiceHall x = hall(2, "fuse 20;burn 1;gap 5;");
        x.light();
        x.pass(10);
        x.cry(0, false, 5, 50);
        x.cry(1, true, 2, 60);
        x.pass(10);
        Due.is("no close", x.session(0, 2), -1);
        Due.rules(x, 0, "gap 20;");
        Due.is("the gap as it was", x.other(0, 0, 99999), -1);
    }

    private static void leastAndJudged() {
        RiceHall x = hall(2, "burn 600;margin 0;");
        Due.is("no close: least(1)", x.least(1), -1);
        Due.is("no close: judged(0, 1)", x.judged(0, 1), 0);
        int[] closes = {100, 100, 110, 90, 130};
        for (int close : closes) {
            x.light();
            x.cry(0, true, 1, close);
            x.cry(1, false, 1, close);
            x.pass(1);
            if (x.count(5) == 1) {
                Due.is("one close: least(1)", x.least(1), -1);
            }
            if (x.count(5) == 2) {
                Due.is("two alike: least(1)", x.least(1), 0);
            }
        }
        int[] leasts = {40, 40, 40, 40};
        for (int k = 1; k <= 4; k++) {
            Due.is("least(" + k + ")", x.least(k), leasts[k - 1]);
        }
        Due.is("least(10)", x.least(10), 40);
        Due.is("least(11)", x.least(11), -1);
        Due.is("least(0)", x.least(0), -1);
        Due.is("judged(19, 1)", x.judged(19, 1), 2);
        Due.is("judged(20, 1)", x.judged(20, 1), 1);
        // behind the second 100 come 110, 90 and 130, behind the first one in three 100, 110 and 90
        Due.is("judged(9, 2)", x.judged(9, 2), 4);
        Due.is("judged(29, 3)", x.judged(29, 3), 2);
        Due.is("judged(29, 4)", x.judged(29, 4), 3);
        Due.is("judged(0, 1)", x.judged(0, 1), 3);
        Due.is("judged(99999, 10)", x.judged(99999, 10), 0);
        Due.is("judged(100000, 10)", x.judged(100000, 10), -1);
        Due.is("judged(-1, 10)", x.judged(-1, 10), -1);
        Due.is("judged(5, 0)", x.judged(5, 0), -1);
        Due.is("judged(5, 11)", x.judged(5, 11), -1);
    }
}
