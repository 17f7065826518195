/** Each edge that the document names of the clock, towns, fog, roads, news and persons (==== 1, promises 1 to 7). */
public final class EdgeLandTest {
    private EdgeLandTest() {
    }

    public static void main(String[] args) {
        none();
        now();
        dayAndHour();
        tenTowns();
        hallsTown();
        fogHasBothEnds();
        fogOverMidnight();
        noFogAtFirst();
        unlikeTowns();
        flagsBounds();
        noFlags();
        walkBounds();
        onFoot();
        hoursOfFlags();
        neitherHasFog();
        waitOfFlags();
        flagsLater();
        leastMinute();
        sixteenPersons();
        personAtFirst();
        newObject();
        townPromise();
        fogPromise();
        roadPromise();
        roadToldAgain();
        newsPromise();
        personPromise();
        hearsOrder();
        hearsRefused();
        Due.end();
    }

    private static void none() {
        Doc.says("There is none.");
        Due.is("NONE", RiceHall.NONE, -1);
    }

    private static void now() {
        Doc.says("NOW is a minute 0 to 57,600");
        RiceHall x = new RiceHall();
        Due.is("at first", x.count(0), 0);
        Halls.passTo(x, 57599);
        State.refused(x, "pass(2)", () -> x.pass(2), -1);
        Due.is("pass(1)", x.pass(1), 57600);
        State.refused(x, "pass(1)", () -> x.pass(1), -1);
    }

    private static void dayAndHour() {
        Doc.says("the DAY is it by 1,440, cut, the HOUR the rest");
        RiceHall x = Halls.ruled("if day=0 floor 10;if day=1 floor 11;if day=40 floor 50;if hour=0 gap 100;"
                + "if hour=1439 gap 101;if hour>1439 gap 999;");
        int[][] wants = {{0, 10, 100}, {1, 10, 10}, {1439, 10, 101}, {1440, 11, 100}, {2879, 11, 101}, {2880, 0, 100},
            {57599, 0, 101}, {57600, 50, 100}};
        for (int[] want : wants) {
            Halls.passTo(x, want[0]);
            Due.is("by the day at " + want[0], x.rule(0), want[1]);
            Due.is("by the hour at " + want[0], x.rule(6), want[2]);
        }
    }

    private static void tenTowns() {
        Doc.says("TOWNS, up to 10");
        RiceHall x = Halls.withTowns(8);
        Due.is("the tenth", x.town(), 9);
        Due.is("the eleventh", x.town(), -1);
        Due.is("count(1)", x.count(1), 10);
        Due.is("a person in the tenth", x.person(9), 0);
        Due.is("none in an eleventh", x.person(10), -1);
    }

    private static void hallsTown() {
        Doc.says("(0 is the hall's, there at first)");
        RiceHall x = new RiceHall();
        Due.is("a person in it", x.person(0), 0);
        Due.is("what is told in it is in force at once", x.rules(0, 0), 0);
        Due.is("heard(0)", x.heard(0), 0);
    }

    private static RiceHall twoTowns(int flags) {
        RiceHall x = Halls.withTowns(1);
        x.road(0, 1, flags, 2000);
        return x;
    }

    private static void news(RiceHall x, int minute, int want) {
        Due.is("news(0, 1, " + minute + ")", x.news(0, 1, minute), want);
        Due.is("news(1, 0, " + minute + ")", x.news(1, 0, minute), want);
    }

    private static void fogHasBothEnds() {
        Doc.says("from an HOUR to another one (both ends;");
        RiceHall x = twoTowns(7);
        x.fog(0, 400, 410);
        news(x, 399, 406);
        news(x, 400, 418);
        news(x, 409, 418);
        news(x, 410, 418);
        news(x, 411, 418);
        x.fog(0, 500, 500);
        news(x, 499, 506);
        news(x, 500, 508);
        news(x, 501, 508);
        x.fog(0, 0, 360);
        news(x, 360, 368);
        x.fog(0, 1079, 1439);
        news(x, 1078, 1085);
        news(x, 1079, 1440 + 367);
    }

    private static void fogOverMidnight() {
        Doc.says("over midnight if from is greater;");
        RiceHall x = twoTowns(7);
        x.fog(1, 1000, 380);
        news(x, 379, 388);
        news(x, 380, 388);
        news(x, 381, 388);
        news(x, 999, 1006);
        news(x, 1000, 1440 + 388);
        news(x, 1439, 1440 + 388);
        news(x, 1440, 1440 + 388);
        x.fog(1, 381, 380);
        news(x, 700, 2700);
    }

    private static void noFogAtFirst() {
        Doc.says("none at first). ROADS");
        RiceHall x = twoTowns(7);
        news(x, 0, 367);
        news(x, 360, 367);
        news(x, 720, 727);
        news(x, 1079, 1086);
    }

    private static void unlikeTowns() {
        Doc.says("ROADS between two unlike TOWNS");
        RiceHall x = Halls.withTowns(1);
        State.refused(x, "road(0, 0, 1, 1)", () -> x.road(0, 0, 1, 1) ? 1 : 0, 0);
        State.refused(x, "road(1, 1, 1, 1)", () -> x.road(1, 1, 1, 1) ? 1 : 0, 0);
        Due.is("road(0, 1, 1, 1)", x.road(0, 1, 1, 1), true);
    }

    private static void flagsBounds() {
        Doc.says("FLAGS 0 to 200 minutes");
        RiceHall x = Halls.withTowns(1);
        Due.is("flags 0", x.road(0, 1, 0, 9), true);
        Due.is("flags 200", x.road(0, 1, 200, 900), true);
        news(x, 360, 560);
        State.refused(x, "flags 201", () -> x.road(0, 1, 201, 5) ? 1 : 0, 0);
        State.refused(x, "flags -1", () -> x.road(0, 1, -1, 5) ? 1 : 0, 0);
    }

    private static void noFlags() {
        Doc.says("(0: none)");
        RiceHall x = twoTowns(0);
        news(x, 360, 2360);
        news(x, 720, 2720);
        x.road(0, 1, 1, 2000);
        news(x, 720, 721);
    }

    private static void walkBounds() {
        Doc.says("WALK 1 to 2,000");
        RiceHall x = Halls.withTowns(1);
        State.refused(x, "walk 0", () -> x.road(0, 1, 0, 0) ? 1 : 0, 0);
        State.refused(x, "walk -1", () -> x.road(0, 1, 0, -1) ? 1 : 0, 0);
        Due.is("walk 1", x.road(0, 1, 0, 1), true);
        news(x, 0, 1);
        Due.is("walk 2,000", x.road(0, 1, 0, 2000), true);
        news(x, 0, 2000);
        State.refused(x, "walk 2,001", () -> x.road(0, 1, 0, 2001) ? 1 : 0, 0);
    }

    private static void onFoot() {
        Doc.says("on foot it's WALK later at the next;");
        RiceHall x = twoTowns(100);
        x.road(0, 1, 100, 99);
        news(x, 500, 599);
        x.road(0, 1, 100, 101);
        news(x, 500, 600);
        news(x, 1200, 1301);
        news(x, 57600, 57701);
    }

    private static void hoursOfFlags() {
        Doc.says("by FLAGS it may wait there till an HOUR 360 to 1,079");
        RiceHall x = twoTowns(7);
        news(x, 359, 367);
        news(x, 360, 367);
        news(x, 361, 368);
        news(x, 1078, 1085);
        news(x, 1079, 1086);
        news(x, 1080, 1440 + 367);
        news(x, 1439, 1440 + 367);
        news(x, 57600, 57600 + 367);
    }

    private static void neitherHasFog() {
        Doc.says("at which neither TOWN has FOG");
        RiceHall x = Halls.withTowns(2);
        x.road(0, 1, 7, 2000);
        x.fog(2, 0, 1439);
        news(x, 500, 507);
        x.fog(0, 500, 600);
        x.fog(1, 601, 700);
        news(x, 500, 708);
        news(x, 601, 708);
        x.fog(1, 602, 700);
        news(x, 500, 608);
        x.fog(1, 550, 599);
        news(x, 500, 608);
    }

    private static void waitOfFlags() {
        Doc.says("within the next 2,880 minutes (that minute itself is the first of them)");
        RiceHall x = twoTowns(200);
        x.fog(0, 1080, 1078);
        news(x, 1079, 1279);
        news(x, 1080, 1440 + 1279);
        x.fog(1, 1079, 1079);
        news(x, 1079, 3079);
        news(x, 1080, 3080);
        x.fog(1, -1, 0);
        x.fog(0, 361, 359);
        news(x, 360, 560);
        news(x, 361, 1440 + 560);
    }

    private static void flagsLater() {
        Doc.says("and is FLAGS later at the next");
        RiceHall x = Halls.withTowns(2);
        x.road(0, 1, 1, 2000);
        x.road(1, 2, 200, 2000);
        Due.is("news(0, 2, 360)", x.news(0, 2, 360), 561);
        Due.is("the last that is seen on both roads", x.news(0, 2, 1078), 1079 + 200);
        Due.is("waits half way", x.news(0, 2, 1079), 1440 + 360 + 200);
        Due.is("waits at the end of the long road", x.news(2, 0, 1000), 1440 + 361);
    }

    private static void leastMinute() {
        Doc.says("HEARD: the least minute at which it can be in another TOWN; none.");
        RiceHall x = Halls.withTowns(9);
        for (int t = 1; t < 10; t++) {
            Due.is("no way yet", x.news(0, 9, 0), -1);
            x.road(t - 1, t, 0, 2000);
        }
        Due.is("over all roads", x.news(0, 9, 57600), 57600 + 9 * 2000);
        Due.is("back over all roads", x.news(9, 0, 0), 9 * 2000);
        x.road(0, 8, 0, 1999);
        Due.is("by a way about", x.news(0, 7, 0), 3999);
        Due.is("by the shorter way", x.news(0, 3, 0), 6000);
        x.road(0, 9, 0, 1998);
        Due.is("the straight one", x.news(0, 9, 0), 1998);
        Due.is("where it is already", x.news(5, 5, 1234), 1234);
    }

    private static void sixteenPersons() {
        Doc.says("PERSONS, up to 16, each in a TOWN");
        RiceHall x = Halls.of(15, 0);
        x.town();
        Due.is("the 16th", x.person(1), 15);
        Due.is("told(15, 0)", x.told(15, 0), 1);
        Due.is("the 17th", x.person(1), -1);
        Due.is("pay(15, 1)", x.pay(15, 1), true);
        Due.is("pay(16, 1)", x.pay(16, 1), false);
    }

    private static void personAtFirst() {
        Doc.says("with COINS in the house (0 at first; may be below 0), a POSITION (lots; 0)");
        RiceHall x = Halls.ruled("burn 600;settle 99;", 0, 0);
        x.store();
        Halls.coins(x, 0, 0);
        int[] zeros = {0, 1, 2, 4, 5, 6, 10};
        for (int what : zeros) {
            Halls.told(x, what, 0, 0);
        }
        Halls.told(x, 3, -1, -1);
        Halls.close(x, 0, 1, 1, 500);
        Halls.told(x, 1, 1, -1);
        x.person(0);
        x.person(0);
        Halls.close(x, 2, 3, 1, 499);
        Halls.coins(x, -1, 1, 0, 0);
    }

    private static void newObject() {
        Doc.says("TOWN 0; NOW 0, WIND 0; no PERSONS, STORES, RULES.");
        RiceHall x = new RiceHall();
        for (int what = 0; what < 14; what++) {
            Due.is("count(" + what + ")", x.count(what), what == 1 ? 1 : 0);
        }
        Due.is("no person", x.coins(0), -1000000000000L);
        Due.is("no store", x.storeOf(0, 0), -1);
        Due.is("no rules", x.rule(11), -1);
        Due.is("no rules", x.heard(0), -1);
        Due.is("no session", x.session(0, 0), -1);
        for (int what = 0; what < 3; what++) {
            Due.is("sum(" + what + ")", x.sum(what), 0);
        }
        Due.is("the FUND", x.coins(-1), 0);
        x.pay(x.person(0), 5);
        Due.is("a second one is new, too", new RiceHall().count(2), 0);
    }

    private static void townPromise() {
        Doc.says("A TOWN: its number. NONE: 10 are there.");
        RiceHall x = new RiceHall();
        for (int t = 1; t <= 9; t++) {
            Due.is("town()", x.town(), t);
        }
        State.refused(x, "town()", x::town, -1);
        State.refused(x, "town() again", x::town, -1);
    }

    private static void fogPromise() {
        Doc.says("FOG (HOURS 0 to 1,439; from NONE: none): true; false: not as told.");
        RiceHall x = twoTowns(7);
        Due.is("fog(0, 0, 1439)", x.fog(0, 0, 1439), true);
        news(x, 720, 2720);
        State.refused(x, "from -2", () -> x.fog(0, -2, 5) ? 1 : 0, 0);
        State.refused(x, "from 1,440", () -> x.fog(0, 1440, 5) ? 1 : 0, 0);
        State.refused(x, "to 1,440", () -> x.fog(0, 5, 1440) ? 1 : 0, 0);
        State.refused(x, "to -1", () -> x.fog(0, 5, -1) ? 1 : 0, 0);
        State.refused(x, "town -1", () -> x.fog(-1, 5, 5) ? 1 : 0, 0);
        State.refused(x, "town 2", () -> x.fog(2, 5, 5) ? 1 : 0, 0);
        State.refused(x, "none in town 2", () -> x.fog(2, -1, 0) ? 1 : 0, 0);
        Due.is("fog(0, -1, 0)", x.fog(0, -1, 0), true);
        news(x, 720, 727);
        Due.is("fog(1, 1439, 0)", x.fog(1, 1439, 0), true);
        Due.is("fog(1, 0, 0)", x.fog(1, 0, 0), true);
        Due.is("fog(1, 1439, 1439)", x.fog(1, 1439, 1439), true);
        news(x, 720, 727);
    }

    private static void roadPromise() {
        Doc.says("in place of what was): true; false: not as told.");
        RiceHall x = twoTowns(7);
        State.refused(x, "road(0, 2, 1, 1)", () -> x.road(0, 2, 1, 1) ? 1 : 0, 0);
        State.refused(x, "road(2, 0, 1, 1)", () -> x.road(2, 0, 1, 1) ? 1 : 0, 0);
        State.refused(x, "road(-1, 0, 1, 1)", () -> x.road(-1, 0, 1, 1) ? 1 : 0, 0);
        State.refused(x, "road(0, -1, 1, 1)", () -> x.road(0, -1, 1, 1) ? 1 : 0, 0);
    }

    private static void roadToldAgain() {
        Doc.says("A ROAD (told again in place of what was)");
        RiceHall x = twoTowns(7);
        news(x, 720, 727);
        Due.is("from the other end", x.road(1, 0, 0, 30), true);
        news(x, 720, 750);
        Due.is("longer", x.road(0, 1, 0, 300), true);
        news(x, 720, 1020);
    }

    private static void newsPromise() {
        Doc.says("HEARD in a TOWN what is at another one at a minute (0 to 57,600). NONE: none, none such.");
        RiceHall x = Halls.withTowns(2);
        x.road(0, 1, 0, 5);
        news(x, 0, 5);
        news(x, 57600, 57605);
        news(x, -1, -1);
        news(x, 57601, -1);
        Due.is("none goes there", x.news(0, 2, 0), -1);
        Due.is("none comes from there", x.news(2, 0, 0), -1);
        int[] odd = {-1, 3, Integer.MAX_VALUE, Integer.MIN_VALUE};
        for (int town : odd) {
            Due.is("from no town", x.news(town, 0, 0), -1);
            Due.is("to no town", x.news(0, town, 0), -1);
            Due.is("in no town", x.news(town, town, 0), -1);
        }
        Due.is("here at the last minute", x.news(2, 2, 57600), 57600);
        Due.is("here behind it", x.news(2, 2, 57601), -1);
    }

    private static void personPromise() {
        Doc.says("A PERSON: its number. NONE, doing nothing: no such TOWN, 16 are there.");
        RiceHall x = Halls.withTowns(1);
        State.refused(x, "person(2)", () -> x.person(2), -1);
        State.refused(x, "person(-1)", () -> x.person(-1), -1);
        for (int p = 0; p < 16; p++) {
            Due.is("person(1)", x.person(1), p);
        }
        State.refused(x, "the 17th", () -> x.person(0), -1);
    }

    private static RiceHall listeners() {
        RiceHall x = Halls.withTowns(3);
        x.road(0, 1, 0, 1);
        x.road(0, 2, 0, 1);
        int[] towns = {3, 2, 1, 0, 2, 0};
        for (int town : towns) {
            x.person(town);
        }
        return x;
    }

    private static void hearsOrder() {
        Doc.says("The k-th to hear of it (0 on), by minutes, of one minute by numbers.");
        RiceHall x = listeners();
        int[] inTheHall = {3, 5, 1, 2, 4};
        for (int k = 0; k < inTheHall.length; k++) {
            Due.is("hears(0, 0, " + k + ")", x.hears(0, 0, k), inTheHall[k]);
            Due.is("hears(0, 57600, " + k + ")", x.hears(0, 57600, k), inTheHall[k]);
        }
        int[] fromOne = {2, 3, 5, 1, 4};
        for (int k = 0; k < fromOne.length; k++) {
            Due.is("hears(1, 7, " + k + ")", x.hears(1, 7, k), fromOne[k]);
        }
        Due.is("hears(3, 7, 0)", x.hears(3, 7, 0), 0);
        RiceHall all = Halls.of(16, 0);
        for (int k = 0; k < 16; k++) {
            Due.is("all hear it at once: hears(0, 0, " + k + ")", all.hears(0, 0, k), k);
        }
        Due.is("hears(0, 0, 16)", all.hears(0, 0, 16), -1);
        Due.is("hears(0, 0, -1)", all.hears(0, 0, -1), -1);
    }

    private static void hearsRefused() {
        Doc.says("of one minute by numbers. NONE: none such.");
        RiceHall x = listeners();
        Due.is("the sixth hears nothing of it", x.hears(0, 0, 5), -1);
        Due.is("hears(0, 0, 6)", x.hears(0, 0, 6), -1);
        Due.is("hears(3, 0, 1)", x.hears(3, 0, 1), -1);
        Due.is("hears(0, 0, -1)", x.hears(0, 0, -1), -1);
        Due.is("hears(-1, 0, 0)", x.hears(-1, 0, 0), -1);
        Due.is("hears(4, 0, 0)", x.hears(4, 0, 0), -1);
        Due.is("hears(0, -1, 0)", x.hears(0, -1, 0), -1);
        Due.is("hears(0, 57601, 0)", x.hears(0, 57601, 0), -1);
        Due.is("nobody is there", new RiceHall().hears(0, 0, 0), -1);
    }
}
