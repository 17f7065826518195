/** Promises 1 to 7: a new object, town, fog, road, news, person, hears. */
public final class LandTest {
    private LandTest() {
    }

    public static void main(String[] args) {
        newObject();
        towns();
        fogs();
        roads();
        flagsByDay();
        fogOverMidnight();
        newsByTheQuickestWay();
        persons();
        whoHears();
        Due.end();
    }

    private static void newObject() {
        RiceHall x = new RiceHall();
        int[] wants = {0, 1, 0, 0, 0, 0, 0, 0, 0, 0, 0, 0, 0, 0};
        for (int what = 0; what < wants.length; what++) {
            Due.is("new: count(" + what + ")", x.count(what), wants[what]);
        }
        Due.is("new: coins(-1)", x.coins(-1), 0);
        Due.is("new: rule(11)", x.rule(11), -1);
        Due.is("new: fault()", x.fault(), -1);
        Due.is("new: sum(2)", x.sum(2), 0);
        Due.is("new: news(0, 0, 0)", x.news(0, 0, 0), 0);
    }

    private static void towns() {
        RiceHall x = new RiceHall();
        for (int t = 1; t < 10; t++) {
            Due.is("town()", x.town(), t);
        }
        Due.is("the eleventh town()", x.town(), -1);
        Due.is("count(1)", x.count(1), 10);
    }

    private static void fogs() {
        RiceHall x = new RiceHall();
        Due.is("fog(0, 0, 1439)", x.fog(0, 0, 1439), true);
        Due.is("fog(0, 1439, 0)", x.fog(0, 1439, 0), true);
        Due.is("fog(0, 5, 5)", x.fog(0, 5, 5), true);
        Due.is("fog(0, -1, 9)", x.fog(0, -1, 9), true);
        Due.is("fog(0, -2, 9)", x.fog(0, -2, 9), false);
        Due.is("fog(0, 1440, 9)", x.fog(0, 1440, 9), false);
        Due.is("fog(0, 9, 1440)", x.fog(0, 9, 1440), false);
        Due.is("fog(0, 9, -1)", x.fog(0, 9, -1), false);
        Due.is("fog(1, 9, 10)", x.fog(1, 9, 10), false);
        Due.is("fog(-1, 9, 10)", x.fog(-1, 9, 10), false);
        Due.is("fog(1, -1, 0)", x.fog(1, -1, 0), false);
    }

    private static void roads() {
        RiceHall x = new RiceHall();
        x.town();
        Due.is("road(0, 1, 0, 1)", x.road(0, 1, 0, 1), true);
        Due.is("road(1, 0, 200, 2000)", x.road(1, 0, 200, 2000), true);
        Due.is("road(1, 1, 0, 1)", x.road(1, 1, 0, 1), false);
        Due.is("road(0, 2, 0, 1)", x.road(0, 2, 0, 1), false);
        Due.is("road(-1, 1, 0, 1)", x.road(-1, 1, 0, 1), false);
        Due.is("road(0, 1, -1, 1)", x.road(0, 1, -1, 1), false);
        Due.is("road(0, 1, 201, 1)", x.road(0, 1, 201, 1), false);
        Due.is("road(0, 1, 0, 0)", x.road(0, 1, 0, 0), false);
        Due.is("road(0, 1, 0, 2001)", x.road(0, 1, 0, 2001), false);
        Due.is("the last told: news(0, 1, 0)", x.news(0, 1, 0), 560);
        x.road(0, 1, 0, 7);
        Due.is("told again: news(1, 0, 0)", x.news(1, 0, 0), 7);
    }

    private static void flagsByDay() {
        RiceHall x = new RiceHall();
        x.town();
        x.town();
        x.road(0, 1, 10, 2000);
        Due.is("before light", x.news(0, 1, 359), 370);
        Due.is("first light", x.news(0, 1, 360), 370);
        Due.is("last light", x.news(0, 1, 1079), 1089);
        Due.is("past light", x.news(0, 1, 1080), 1810);
        Due.is("the last minute", x.news(0, 1, 57600), 57970);
        Due.is("no road", x.news(0, 2, 5), -1);
        Due.is("no such minute", x.news(0, 1, 57601), -1);
        Due.is("no such minute", x.news(0, 1, -1), -1);
        Due.is("no such town", x.news(0, 3, 5), -1);
        Due.is("no such town", x.news(-1, 0, 5), -1);
        Due.is("where it is", x.news(2, 2, 5), 5);
        x.road(0, 1, 10, 5);
        Due.is("on foot it's earlier", x.news(0, 1, 500), 505);
        x.road(0, 1, 10, 2000);
        x.fog(0, 360, 700);
        x.fog(1, 701, 1078);
        Due.is("fog of both", x.news(0, 1, 360), 1089);
        x.fog(1, 701, 1079);
        Due.is("fog all day: on foot", x.news(0, 1, 360), 2360);
        x.fog(0, 0, 1439);
        x.fog(1, -1, 0);
        Due.is("fog of the other one: on foot", x.news(1, 0, 360), 2360);
    }

    private static void fogOverMidnight() {
        RiceHall x = new RiceHall();
        x.town();
        x.road(0, 1, 1, 2000);
        x.fog(1, 1000, 400);
        Due.is("in the fog's first minute", x.news(0, 1, 1000), 1842);
        Due.is("ahead of it", x.news(0, 1, 999), 1000);
        Due.is("in its last minute", x.news(0, 1, 400), 402);
        Due.is("behind it", x.news(0, 1, 401), 402);
        x.fog(1, 500, 500);
        Due.is("fog of a minute", x.news(0, 1, 500), 502);
        Due.is("fog of a minute", x.news(0, 1, 499), 500);
        Due.is("fog of a minute", x.news(0, 1, 501), 502);
        x.fog(1, 700, 699);
        Due.is("fog without an end", x.news(0, 1, 699), 2699);
        x.fog(1, 1440, 0);
        Due.is("as it was", x.news(0, 1, 699), 2699);
        x.fog(1, -1, 0);
        Due.is("no fog any more", x.news(0, 1, 699), 700);
    }

    private static void newsByTheQuickestWay() {
        RiceHall x = new RiceHall();
        for (int t = 0; t < 4; t++) {
            x.town();
        }
        x.road(0, 1, 0, 100);
        x.road(1, 2, 0, 100);
        x.road(0, 2, 0, 250);
        x.road(2, 3, 5, 1000);
        Due.is("two short roads", x.news(0, 2, 0), 200);
        Due.is("waits for light on the way", x.news(0, 3, 0), 365);
        Due.is("no wait", x.news(0, 3, 300), 505);
        Due.is("the other way round", x.news(3, 0, 300), 565);
        Due.is("none goes there", x.news(0, 4, 300), -1);
    }

    private static void persons() {
        RiceHall x = new RiceHall();
        Due.is("person(1)", x.person(1), -1);
        Due.is("person(-1)", x.person(-1), -1);
        Due.is("count(2)", x.count(2), 0);
        x.town();
        for (int p = 0; p < 16; p++) {
            Due.is("person()", x.person(p % 2), p);
            Due.is("told(" + p + ", 0)", x.told(p, 0), p % 2);
        }
        Due.is("the 17th person", x.person(0), -1);
        Due.is("count(2)", x.count(2), 16);
    }

    private static void whoHears() {
        RiceHall x = new RiceHall();
        x.town();
        x.town();
        x.town();
        x.road(0, 1, 0, 50);
        x.road(0, 2, 0, 50);
        int[] towns = {2, 3, 1, 0, 1};
        for (int t : towns) {
            x.person(t);
        }
        int[] wants = {3, 0, 2, 4, -1, -1};
        for (int k = 0; k < wants.length; k++) {
            Due.is("hears(0, 10, " + k + ")", x.hears(0, 10, k), wants[k]);
        }
        Due.is("hears(3, 10, 0)", x.hears(3, 10, 0), 1);
        Due.is("hears(3, 10, 1)", x.hears(3, 10, 1), -1);
        Due.is("hears(0, 10, -1)", x.hears(0, 10, -1), -1);
        Due.is("hears(4, 10, 0)", x.hears(4, 10, 0), -1);
        Due.is("hears(0, 57600, 0)", x.hears(0, 57600, 0), 3);
        Due.is("hears(0, 57601, 0)", x.hears(0, 57601, 0), -1);
        Due.is("hears(0, -1, 0)", x.hears(0, -1, 0), -1);
    }
}
