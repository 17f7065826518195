/** Promises 20 to 25: feed, rules, fault, rule, heard, wind. */
public final class RulesTest {
    private static final int[] UNTOLD = {0, 99999, 10, 600, 10, 1, 10, 1440, 4, 0, 0, -1};

    private RulesTest() {
    }

    public static void main(String[] args) {
        tape();
        untold();
        everyWord();
        lastThatHolds();
        conditions();
        facts();
        faults();
        opens();
        statements();
        refusals();
        inForce();
        winds();
        Due.end();
    }

    private static void tape() {
        RiceHall x = new RiceHall();
        for (int i = 1; i <= 25; i++) {
            Due.is("feed " + i, x.feed(1, 2, 3, 4, 5), 20 * i);
        }
        Due.is("feed 26", x.feed(1, 2, 3, 4, 5), -1);
        Due.is("count(12)", x.count(12), 500);
        Due.is("the byte 0 begins no token", x.rules(0, 500), -1);
        Due.is("fault()", x.fault(), 0);
        Due.is("it's empty then", x.count(12), 0);
        // "halt" from the highest byte on; what lies behind the n bytes is gone, too
        x.feed(0x68616c74, 0x3b212121, 0, 0, 0);
        Due.is("rules(0, 5)", x.rules(0, 5), 0);
        Due.is("rule(10)", x.rule(10), 1);
        Due.is("it's empty then", x.count(12), 0);
    }

    private static void untold() {
        RiceHall x = new RiceHall();
        for (int what = 0; what < UNTOLD.length; what++) {
            Due.is("rule(" + what + ")", x.rule(what), UNTOLD[what]);
        }
        Due.is("rule(12)", x.rule(12), -1);
        Due.is("rule(-1)", x.rule(-1), -1);
        Due.is("an empty text", x.rules(0, 0), 0);
        for (int what = 0; what < 11; what++) {
            Due.is("empty: rule(" + what + ")", x.rule(what), UNTOLD[what]);
        }
        Due.is("empty: rule(11)", x.rule(11), 0);
    }

    private static void everyWord() {
        RiceHall x = new RiceHall();
        Due.is("every word", Due.rules(x, 0, "floor 1;ceiling 2;margin 3;fuse 4;burn 5;gust 6;gap 7;grace 8;"
                + "settle 9;spoil holder;halt;"), 0);
        int[] wants = {1, 2, 3, 4, 5, 6, 7, 8, 9, 1, 1, 0};
        for (int what = 0; what < wants.length; what++) {
            Due.is("told: rule(" + what + ")", x.rule(what), wants[what]);
        }
        Due.rules(x, 0, "if day=0 spoil holder;halt");
        Due.is("a text with a fault leaves all as it was", x.rule(11), 0);
        Due.rules(x, 0, "spoil holder;spoil store;floor 99999;");
        Due.is("spoil store", x.rule(9), 0);
        Due.is("floor 99999", x.rule(0), 99999);
        Due.is("the ones told last are whole", x.rule(1), 99999);
    }

    private static void lastThatHolds() {
        RiceHall x = new RiceHall();
        Due.rules(x, 0, "gap 1;if wind<5 gap 2;if wind>3 gap 3;if wind=4 gust 9;");
        int[] wants = {2, 2, 2, 2, 3, 3};
        for (int w = 0; w < wants.length; w++) {
            x.wind(w);
            Due.is("gap in the wind " + w, x.rule(6), wants[w]);
            Due.is("gust in the wind " + w, x.rule(5), w == 4 ? 9 : 1);
        }
    }

    private static void holds(String condition, boolean want) {
        RiceHall x = new RiceHall();
        x.wind(3);
        Due.is(condition, Due.rules(x, 0, "if " + condition + " halt;"), 0);
        Due.is(condition, x.rule(10), want ? 1 : 0);
    }

    private static void conditions() {
        holds("wind=3", true);
        holds("wind<3", false);
        holds("wind<4", true);
        holds("wind>3", false);
        holds("wind>2", true);
        holds("wind=00003", true);
        holds("not wind=3", false);
        holds("not not wind=3", true);
        holds("wind=3 and wind=4", false);
        holds("wind=3 or wind=4", true);
        holds("wind=4 or wind=5", false);
        holds("day<0", false);
        holds("not day<0", true);
        holds("wind=3 and day<0", false);
        holds("out=0 and rice=0 and not out>0", true);
        holds("wind=3 or wind=4 and wind=5", true);
        holds("wind=4 and wind=5 or wind=3", true);
        holds("(wind=3 or wind=4) and wind=5", false);
        holds("not wind=3 or wind=3", true);
        holds("not (wind=3 or wind=3)", false);
        holds("not wind=4 and wind=4", false);
        holds("not (wind=4 and wind=3)", true);
        holds("((((((((wind=3))))))))", true);
        holds("not not not not not not not not wind=3", true);
        holds("not(not(not(not(wind=3))))", true);
        holds("(((not wind=4 and ((wind=9 or wind=3) and not(wind=9)))))or day=9", true);
        holds("wind=3 and wind=3 and wind=3 and wind=4 or wind=4 or wind=4 and wind=3", false);
    }

    private static void facts() {
        RiceHall x = new RiceHall();
        Due.rules(x, 0, "if day=1 floor 1;if hour=5 ceiling 2;if close=50 margin 3;if sessions=1 gust 4;"
                + "if rice=7 gap 5;if out=9 grace 6;burn 600;");
        x.person(0);
        x.person(0);
        x.store();
        x.store();
        Due.is("close, 0 without", x.rule(2), 10);
        x.light();
        x.cry(0, true, 1, 50);
        x.cry(1, false, 1, 50);
        Due.is("none yet", x.rule(5), 1);
        x.pass(1);
        Due.is("close", x.rule(2), 3);
        Due.is("sessions", x.rule(5), 4);
        x.come(0, 3);
        x.come(1, 4);
        Due.is("rice of all", x.rule(6), 5);
        x.issue(0, 0, 4, 0);
        x.issue(1, 1, 5, 0);
        Due.is("out of all", x.rule(7), 6);
        x.pass(4);
        Due.is("hour", x.rule(1), 2);
        Due.is("day", x.rule(0), 0);
        x.pass(1434);
        Due.is("day", x.rule(0), 0);
        x.pass(1);
        Due.is("day", x.rule(0), 1);
        x.pass(5);
        Due.is("hour of the next day", x.rule(1), 2);
    }

    private static void fault(String text, int want) {
        RiceHall x = new RiceHall();
        Due.is("rules of '" + text + "'", Due.rules(x, 0, text), want == -1 ? 0 : -1);
        Due.is("fault of '" + text + "'", x.fault(), want);
        Due.is("count(9) of '" + text + "'", x.count(9), want == -1 ? 1 : 0);
    }

    private static void faults() {
        fault("", -1);
        fault("   \n ", -1);
        fault("halt;", -1);
        fault("halt", 4);
        fault("halt  ", 6);
        fault(";", 0);
        fault("halt;;", 5);
        fault("hal;", 0);
        fault("halts;", 0);
        fault("haltz;", 0);
        fault("zhalt;", 0);
        fault("halt`;", 4);
        fault("halt{", 4);
        fault("floor 1:", 7);
        fault("floor 1/", 7);
        fault("Halt;", 0);
        fault("halt;\thalt;", 5);
        fault("halt;\u00ff", 5);
        fault("haltfloor 5;", 0);
        fault("floor5;", -1);
        fault("floor\n5\n;", -1);
        fault("floor 5floor 6;", 7);
        fault("floor;", 5);
        fault("floor x;", 6);
        fault("floor -1;", 6);
        fault("floor 99999;", -1);
        fault("floor 100000;", 6);
        fault("floor 000000;", 6);
        fault("floor 00000;", -1);
        fault("floor 1 2;", 8);
        fault("fuse 0;", 5);
        fault("burn 00000;", 5);
        fault("settle 0;", 7);
        fault("fuse 1;burn 1;settle 1;", -1);
        fault("ceiling 0;margin 0;gust 0;gap 0;grace 0;", -1);
        fault("spoil;", 5);
        fault("spoil 1;", 6);
        fault("spoil holders;", 6);
        fault("spoil", 5);
        fault("halt 1;", 5);
        fault("if", 2);
        fault("if halt;", 3);
        fault("if day halt;", 7);
        fault("if day<halt;", 7);
        fault("if day<<1 halt;", 7);
        fault("if day<=1 halt;", 7);
        fault("if day<1", 8);
        fault("if day<1;", 8);
        fault("if day<1 if day<1 halt;", 9);
        fault("if day<123456 halt;", 7);
        fault("if day<1 and halt;", 13);
        fault("if day<1 or;", 11);
        fault("if day<1 not day<1 halt;", 9);
        fault("if(day<1)halt;", -1);
        fault("if(day<1 halt;", 9);
        fault("if day<1)halt;", 8);
        fault("if()halt;", 3);
        fault("if not halt;", 7);
        fault("if 1<day halt;", 3);
        fault("if days<1 halt;", 3);
        fault("if hour=1 or wind>2 and close<3 or sessions=4 and rice>5 and out<6 halt;", -1);
        fault("day<1;", 0);
        fault("store;", 0);
        fault("halt;if floor;bad!", 8);
        fault("floor 1a;", 7);
        fault("if day<1halt;", -1);
    }

    private static void opens() {
        String eight = "if ((((((((day<1)))))))) halt;";
        fault(eight, -1);
        fault("if (((((((((day<1))))))))) halt;", 11);
        fault("if not not not not not not not not day<1 halt;", -1);
        fault("if not not not not not not not not not day<1 halt;", 35);
        fault("if not(not(not(not((day<1)))))halt;", 19);
        fault("if not(not(not(not(day<1 and not day<1))))halt;", 29);
        fault("if not(not(not(not(day<1))))and not(not(not(not(day<1))))halt;", -1);
        fault("if not not not not not not not not day<1 and (day<1 or not day<1) halt;", -1);
        fault("if (not(not(not(not day<1 and (day<1)))))halt;", -1);
        fault("if (not(not(not(not day<1 and ((day<1))))))halt;", 31);
        fault("if ((((((((day<1 or not day<1)))))))) halt;", 20);
    }

    private static void statements() {
        StringBuilder text = new StringBuilder();
        for (int i = 0; i < 24; i++) {
            text.append("gap ").append(i).append("; ");
        }
        fault(text.toString(), -1);
        fault(text + "gap 1;", text.length());
        fault(text + "if", text.length());
        fault(text + "!", text.length());
        RiceHall x = new RiceHall();
        Due.rules(x, 0, text.toString());
        Due.is("the last of 24", x.rule(6), 23);
    }

    private static void refusals() {
        RiceHall x = new RiceHall();
        x.town();
        x.town();
        x.road(0, 1, 0, 2000);
        Due.feed(x, "halt;");
        Due.is("no town 3", x.rules(3, 5), -2);
        Due.is("no town -1", x.rules(-1, 5), -2);
        Due.is("n below 0", x.rules(0, -1), -2);
        Due.is("n more than there are", x.rules(0, 21), -2);
        Due.is("the tape is as it was", x.count(12), 20);
        Due.is("it can't be heard", x.rules(2, 5), -4);
        Due.is("no fault", x.fault(), -1);
        Due.is("the tape is empty", x.count(12), 0);
        Due.is("a fault", Due.rules(x, 2, "halt"), -1);
        Due.is("fault()", x.fault(), 4);
        Due.is("-2 leaves it", x.rules(0, 1), -2);
        Due.is("fault()", x.fault(), 4);
        Due.is("can't be heard, no fault", x.rules(2, 0), -4);
        Due.is("fault()", x.fault(), -1);
        for (int i = 0; i < 18; i++) {
            x.pass(3000);
        }
        x.pass(1600);
        Due.is("heard at minute 57,600", x.rules(1, 0), 0);
        x.pass(1);
        Due.is("heard too late", x.rules(1, 0), -4);
        for (int i = 1; i < 8; i++) {
            Due.is("rules " + i, x.rules(0, 0), i);
        }
        Due.feed(x, "bad");
        Due.is("there are 8", x.rules(0, 3), -3);
        Due.is("the tape is as it was", x.count(12), 20);
        Due.is("no such n", x.rules(0, 21), -2);
        Due.is("heard(0)", x.heard(0), 57600);
        Due.is("heard(7)", x.heard(7), 55601);
        Due.is("heard(8)", x.heard(8), -1);
        Due.is("heard(-1)", x.heard(-1), -1);
        Due.is("count(9)", x.count(9), 8);
    }

    private static void inForce() {
        RiceHall x = new RiceHall();
        x.town();
        x.town();
        x.road(0, 1, 0, 100);
        x.road(0, 2, 0, 50);
        Due.rules(x, 1, "floor 1;");
        Due.rules(x, 2, "floor 2;");
        Due.is("heard(0)", x.heard(0), 100);
        Due.is("heard(1)", x.heard(1), 50);
        x.pass(49);
        Due.is("none at 49", x.rule(11), -1);
        Due.is("floor at 49", x.rule(0), 0);
        x.pass(1);
        Due.is("at 50", x.rule(11), 1);
        Due.is("floor at 50", x.rule(0), 2);
        Due.rules(x, 2, "floor 3;");
        x.road(0, 2, 0, 1);
        Due.is("heard as the roads were", x.heard(2), 100);
        x.pass(50);
        Due.is("of several those told last", x.rule(11), 2);
        Due.is("floor at 100", x.rule(0), 3);
        Due.rules(x, 0, "floor 4;");
        Due.is("at once in the hall", x.rule(11), 3);
        Due.is("floor", x.rule(0), 4);
    }

    private static void winds() {
        RiceHall x = new RiceHall();
        Due.is("wind(9)", x.wind(9), true);
        Due.is("wind(10)", x.wind(10), false);
        Due.is("wind(-1)", x.wind(-1), false);
        Due.is("count(7)", x.count(7), 9);
        Due.is("wind(0)", x.wind(0), true);
        Due.is("count(7)", x.count(7), 0);
    }
}
