/** Promises 8 to 15: store, issue, give, call, come, spoil, over, storeOf. */
public final class StoreTest {
    private StoreTest() {
    }

    public static void main(String[] args) {
        stores();
        issues();
        gives();
        queue();
        waits();
        rice();
        spoilsStore();
        spoilsHolder();
        spoilAskedAhead();
        over();
        cannot();
        Due.end();
    }

    private static RiceHall hall(int persons, int stores) {
        RiceHall x = new RiceHall();
        for (int p = 0; p < persons; p++) {
            x.person(0);
        }
        for (int s = 0; s < stores; s++) {
            x.store();
        }
        return x;
    }

    private static void stores() {
        RiceHall x = new RiceHall();
        Due.is("storeOf(0, 0)", x.storeOf(0, 0), -1);
        for (int s = 0; s < 4; s++) {
            Due.is("store()", x.store(), s);
        }
        Due.is("the fifth store()", x.store(), -1);
        int[] wants = {0, 0, 0, 0, 0, 0, -1, 100, -1, -1};
        for (int what = 0; what < wants.length; what++) {
            Due.is("storeOf(3, " + what + ")", x.storeOf(3, what), wants[what]);
        }
        Due.is("storeOf(3, -1)", x.storeOf(3, -1), -1);
        Due.is("storeOf(4, 7)", x.storeOf(4, 7), -1);
        Due.is("storeOf(-1, 7)", x.storeOf(-1, 7), -1);
    }

    private static void issues() {
        RiceHall x = hall(1, 2);
        Due.is("issue of 501", x.issue(0, 0, 501, 0), -1);
        Due.is("issue of 0", x.issue(0, 0, 0, 0), -1);
        Due.is("issue 2,001 late", x.issue(0, 0, 1, 2001), -1);
        Due.is("issue -1 late", x.issue(0, 0, 1, -1), -1);
        Due.is("issue to nobody", x.issue(0, 1, 1, 0), -1);
        Due.is("issue of no store", x.issue(2, 0, 1, 0), -1);
        Due.is("count(10)", x.count(10), 0);
        Due.is("issue of 500", x.issue(0, 0, 500, 2000), 500);
        Due.is("issue of another store", x.issue(1, 0, 3, 0), 3);
        Due.is("told(0, 10)", x.told(0, 10), 500);
        Due.is("told(0, 11)", x.told(0, 11), 3);
        for (int i = 2; i < 60; i++) {
            Due.is("issue " + i, x.issue(0, 0, 1, 0), 499 + i);
        }
        Due.is("the 61st issue", x.issue(1, 0, 1, 0), -1);
        Due.is("count(10)", x.count(10), 60);
        Due.is("storeOf(1, 1)", x.storeOf(1, 1), 3);
    }

    private static void gives() {
        RiceHall x = hall(2, 2);
        x.issue(0, 0, 10, 0);
        Due.is("give 0", x.give(0, 1, 0, 0), false);
        Due.is("give -1", x.give(0, 1, 0, -1), false);
        Due.is("give 11 of 10", x.give(0, 1, 0, 11), false);
        Due.is("give of another store", x.give(0, 1, 1, 1), false);
        Due.is("give of no store", x.give(0, 1, 2, 1), false);
        Due.is("give to nobody", x.give(0, 2, 0, 1), false);
        Due.is("give from nobody", x.give(-1, 0, 0, 1), false);
        Due.is("give 10", x.give(0, 1, 0, 10), true);
        Due.is("told(0, 10)", x.told(0, 10), 0);
        Due.is("told(1, 10)", x.told(1, 10), 10);
        Due.is("storeOf(0, 1)", x.storeOf(0, 1), 10);
        Due.is("give to oneself", x.give(1, 1, 0, 4), true);
        Due.is("told(1, 10)", x.told(1, 10), 10);
    }

    private static void queue() {
        RiceHall x = hall(3, 2);
        x.issue(0, 0, 10, 0);
        x.issue(0, 1, 10, 0);
        x.issue(1, 2, 10, 0);
        Due.is("call without rice", x.call(0, 0, 4), 0);
        Due.is("call behind it", x.call(1, 0, 5), 0);
        Due.is("call in another store", x.call(2, 1, 2), 0);
        Due.is("called paper is held no more", x.told(0, 10), 6);
        Due.is("but it's OUT", x.storeOf(0, 1), 20);
        Due.is("waiting", x.storeOf(0, 2), 9);
        Due.is("who waits first", x.storeOf(0, 6), 0);
        Due.is("call 0", x.call(0, 0, 0), -1);
        Due.is("call 7 of 6", x.call(0, 0, 7), -1);
        Due.is("call of nobody", x.call(3, 0, 1), -1);
        Due.is("call of no store", x.call(0, 2, 1), -1);
        Due.is("count(11)", x.count(11), 3);
        Due.is("6 come", x.come(0, 6), 6);
        Due.is("BALES of the first", x.told(0, 2), 4);
        Due.is("BALES of the second", x.told(1, 2), 2);
        Due.is("who waits first", x.storeOf(0, 6), 1);
        Due.is("served ever", x.storeOf(0, 3), 6);
        Due.is("OUT", x.storeOf(0, 1), 14);
        Due.is("10 come for 3", x.come(0, 10), 3);
        Due.is("RICE", x.storeOf(0, 0), 7);
        Due.is("none waits", x.storeOf(0, 6), -1);
        Due.is("SHARE", x.storeOf(0, 7), 63);
        Due.is("the other store's waits", x.storeOf(1, 2), 2);
        Due.is("served at once", x.call(1, 0, 5), 5);
        Due.is("served in part", x.call(0, 0, 6), 2);
        Due.is("waits", x.storeOf(0, 2), 4);
        Due.is("count(11)", x.count(11), 5);
    }

    private static void waits() {
        RiceHall x = hall(1, 2);
        x.issue(0, 0, 100, 0);
        x.issue(1, 0, 100, 0);
        x.come(0, 9999);
        for (int i = 0; i < 60; i++) {
            Due.is("call " + i, x.call(0, i % 2, 1), i % 2 == 0 ? 1 : 0);
        }
        Due.is("the 61st call", x.call(0, 0, 1), -1);
        Due.is("it did nothing", x.told(0, 10), 70);
        Due.is("count(11)", x.count(11), 60);
    }

    private static void rice() {
        RiceHall x = hall(1, 1);
        Due.is("come(0, 0)", x.come(0, 0), -1);
        Due.is("come(0, 10000)", x.come(0, 10000), -1);
        Due.is("come(1, 1)", x.come(1, 1), -1);
        for (int i = 0; i < 10; i++) {
            Due.is("come(0, 9999)", x.come(0, 9999), 0);
        }
        Due.is("RICE", x.storeOf(0, 0), 99990);
        Due.is("come(0, 10)", x.come(0, 10), -1);
        Due.is("come(0, 9)", x.come(0, 9), 0);
        Due.is("RICE", x.storeOf(0, 0), 99999);
        x.issue(0, 0, 1, 0);
        Due.is("SHARE", x.storeOf(0, 7), 100);
    }

    private static void spoilsStore() {
        RiceHall x = hall(1, 1);
        x.come(0, 199);
        x.issue(0, 0, 100, 0);
        Due.is("spoil(0, 101)", x.spoil(0, 101), -1);
        Due.is("spoil(0, -1)", x.spoil(0, -1), -1);
        Due.is("spoil(1, 5)", x.spoil(1, 5), -1);
        Due.is("spoil(0, 0)", x.spoil(0, 0), 0);
        Due.is("spoil(0, 50)", x.spoil(0, 50), 99);
        Due.is("RICE", x.storeOf(0, 0), 100);
        Due.is("spoiled ever", x.storeOf(0, 4), 99);
        Due.is("paper is as it was", x.told(0, 10), 100);
        Due.is("spoil(0, 100)", x.spoil(0, 100), 100);
        Due.is("spoiled ever", x.storeOf(0, 4), 199);
        Due.is("spoil of nothing", x.spoil(0, 100), 0);
    }

    private static void spoilsHolder() {
        RiceHall x = hall(2, 2);
        Due.is("rules", Due.rules(x, 0, "spoil holder;"), 0);
        x.issue(0, 0, 19, 0);
        x.issue(0, 1, 29, 0);
        x.issue(1, 1, 29, 0);
        x.call(1, 0, 10);
        Due.is("spoil without rice", x.spoil(0, 10), 0);
        Due.is("each cut", x.told(0, 10), 18);
        Due.is("each cut", x.told(1, 10), 18);
        Due.is("another store's stays", x.told(1, 11), 29);
        Due.is("what waits stays", x.storeOf(0, 2), 10);
        Due.is("OUT", x.storeOf(0, 1), 46);
        Due.is("spoiled rice", x.storeOf(0, 4), 0);
        Due.is("over less paper spoiled", x.over(0, 0), 46);
    }

    private static void spoilAskedAhead() {
        RiceHall x = hall(1, 1);
        Due.rules(x, 0, "if rice>99 spoil holder;");
        x.issue(0, 0, 10, 0);
        x.come(0, 100);
        Due.is("asked with the rice as it was", x.spoil(0, 50), 50);
        Due.is("paper spoiled too", x.told(0, 10), 5);
        Due.is("now there's less", x.spoil(0, 50), 25);
        Due.is("paper stays", x.told(0, 10), 5);
    }

    private static void over() {
        RiceHall x = hall(1, 2);
        x.issue(0, 0, 100, 5);
        x.pass(10);
        x.issue(0, 0, 50, 0);
        x.issue(1, 0, 77, 0);
        Due.is("not KNOWN yet", x.over(0, 4), 0);
        Due.is("KNOWN", x.over(0, 5), 100);
        Due.is("issued later", x.over(0, 9), 100);
        Due.is("both", x.over(0, 10), 150);
        Due.is("beyond NOW", x.over(0, 11), -1);
        Due.is("below 0", x.over(0, -1), -1);
        Due.is("no store", x.over(2, 0), -1);
        x.come(0, 30);
        Due.is("less RICE", x.over(0, 10), 120);
        x.call(0, 0, 20);
        Due.is("served instead of RICE", x.over(0, 10), 120);
        x.spoil(0, 100);
        Due.is("spoiled rice is none", x.over(0, 10), 130);
        Due.is("0 at least", x.over(0, 0), 0);
    }

    private static void cannot() {
        RiceHall x = hall(1, 1);
        x.issue(0, 0, 100, 0);
        x.call(0, 0, 1);
        x.pass(1000);
        x.call(0, 0, 1);
        x.pass(1879);
        Due.is("2,879 minutes", x.storeOf(0, 5), 0);
        x.pass(1);
        Due.is("2,880 minutes", x.storeOf(0, 5), 1);
        x.come(0, 1);
        Due.is("the first is served", x.storeOf(0, 5), 0);
        x.pass(1000);
        Due.is("so long waits the second", x.storeOf(0, 5), 1);
    }
}
