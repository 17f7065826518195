/** Each edge that the document names of stores, paper, queue and rice (==== 2, promises 8 to 15). */
public final class EdgeStoreTest {
    private EdgeStoreTest() {
    }

    public static void main(String[] args) {
        fourStores();
        issueBounds();
        sixtyIssues();
        knownLater();
        givenOn();
        calledPaperLeaves();
        sixtyWaits();
        firstServedFirst();
        asFarAsThereIsRice();
        out();
        spoilsCut();
        spoilsHolders();
        spoilIsAskedAhead();
        overUpToNow();
        overZeroAtLeast();
        overLessAll();
        cannot();
        share();
        storePromise();
        issuePromise();
        givePromise();
        callPromise();
        comeBounds();
        comeFull();
        spoilPromise();
        overPromise();
        storeOfPromise();
        Due.end();
    }

    private static void fourStores() {
        Doc.says("STORES, up to 4, with RICE (0 at first).");
        RiceHall x = new RiceHall();
        for (int s = 0; s < 4; s++) {
            Due.is("store()", x.store(), s);
            Due.is("RICE", x.storeOf(s, 0), 0);
        }
        Due.is("the fifth", x.store(), -1);
        Due.is("come(3, 1)", x.come(3, 1), 0);
        Due.is("come(4, 1)", x.come(4, 1), -1);
    }

    private static void issueBounds() {
        Doc.says("PAPER is issued to a PERSON, 1 to 500 of a store at a time");
        RiceHall x = Halls.of(1, 1);
        State.refused(x, "issue of 0", () -> x.issue(0, 0, 0, 0), -1);
        State.refused(x, "issue of -1", () -> x.issue(0, 0, -1, 0), -1);
        State.refused(x, "issue of 501", () -> x.issue(0, 0, 501, 0), -1);
        Due.is("issue of 1", x.issue(0, 0, 1, 0), 1);
        Due.is("issue of 500", x.issue(0, 0, 500, 0), 501);
        Due.is("told(0, 10)", x.told(0, 10), 501);
    }

    private static void sixtyIssues() {
        Doc.says("(up to 60 ISSUES)");
        RiceHall x = Halls.of(2, 4);
        for (int i = 0; i < 60; i++) {
            Due.is("issue " + i, x.issue(i % 4, i % 2, 500, 0), 500 * (i / 4 + 1));
        }
        for (int s = 0; s < 4; s++) {
            int store = s;
            State.refused(x, "the 61st", () -> x.issue(store, 0, 1, 0), -1);
        }
        Due.is("count(10)", x.count(10), 60);
    }

    private static void knownLater() {
        Doc.says("it's KNOWN 0 to 2,000 minutes later;");
        RiceHall x = Halls.of(1, 1);
        State.refused(x, "-1 later", () -> x.issue(0, 0, 1, -1), -1);
        State.refused(x, "2,001 later", () -> x.issue(0, 0, 1, 2001), -1);
        x.pass(3);
        x.issue(0, 0, 5, 0);
        x.issue(0, 0, 70, 2000);
        Due.is("ahead of it", x.over(0, 2), 0);
        Due.is("at once", x.over(0, 3), 5);
        x.pass(2000);
        Due.is("not yet", x.over(0, 2002), 5);
        Due.is("2,000 later", x.over(0, 2003), 75);
    }

    private static void givenOn() {
        Doc.says("it may be given on.");
        RiceHall x = Halls.of(3, 2);
        x.issue(1, 0, 9, 0);
        Due.is("give all", x.give(0, 2, 1, 9), true);
        Halls.told(x, 11, 0, 0, 9);
        Due.is("and on", x.give(2, 1, 1, 1), true);
        Halls.told(x, 11, 0, 1, 8);
        Halls.told(x, 10, 0, 0, 0);
        Due.is("OUT", x.storeOf(1, 1), 9);
    }

    private static void calledPaperLeaves() {
        Doc.says("CALLED paper leaves who holds it and waits in the store's QUEUE");
        RiceHall x = Halls.of(1, 2);
        x.issue(0, 0, 5, 0);
        Due.is("all of it", x.call(0, 0, 5), 0);
        Due.is("PAPER", x.told(0, 10), 0);
        Due.is("BALES", x.told(0, 2), 0);
        Due.is("in the queue", x.storeOf(0, 2), 5);
        Due.is("in the other one", x.storeOf(1, 2), 0);
        State.refused(x, "it can't be given on", () -> x.give(0, 0, 0, 1) ? 1 : 0, 0);
        State.refused(x, "nor called again", () -> x.call(0, 0, 1), -1);
    }

    private static void sixtyWaits() {
        Doc.says("(60 waits in all stores, ever)");
        RiceHall x = Halls.of(1, 4);
        for (int s = 0; s < 4; s++) {
            x.issue(s, 0, 100, 0);
        }
        x.come(0, 7);
        for (int i = 0; i < 60; i++) {
            State.refused(x, "none of a refused one", () -> x.call(0, 0, 101), -1);
            Due.is("call " + i, x.call(0, i % 4, 1), i % 4 == 0 && i / 4 < 7 ? 1 : 0);
            Due.is("count(11)", x.count(11), i + 1);
        }
        x.come(1, 100);
        Due.is("none waits there any more", x.storeOf(1, 2), 0);
        for (int s = 0; s < 4; s++) {
            int store = s;
            State.refused(x, "the 61st", () -> x.call(0, store, 1), -1);
        }
    }

    private static void firstServedFirst() {
        Doc.says("the first that waits is served first:");
        RiceHall x = Halls.of(3, 1);
        for (int p = 0; p < 3; p++) {
            x.issue(0, p, 10, 0);
        }
        x.call(2, 0, 2);
        x.call(0, 0, 1);
        x.call(2, 0, 3);
        x.call(1, 0, 1);
        int[][] wants = {{0, 0, 1, 2}, {0, 0, 2, 0}, {1, 0, 2, 2}, {1, 0, 3, 2}, {1, 0, 4, 2}, {1, 0, 5, 1},
            {1, 1, 5, -1}};
        for (int[] want : wants) {
            Due.is("one comes", x.come(0, 1), 1);
            Halls.told(x, 2, want[0], want[1], want[2]);
            Due.is("who waits first", x.storeOf(0, 6), want[3]);
        }
        Due.is("nobody waits", x.come(0, 1), 0);
    }

    private static void asFarAsThereIsRice() {
        Doc.says("as far as there is RICE a bale for each, one paper less.");
        RiceHall x = Halls.of(1, 1);
        x.issue(0, 0, 30, 0);
        x.come(0, 10);
        Due.is("less than there is", x.call(0, 0, 9), 9);
        Due.is("RICE", x.storeOf(0, 0), 1);
        Due.is("as much as there is", x.call(0, 0, 1), 1);
        Due.is("RICE", x.storeOf(0, 0), 0);
        Due.is("none", x.call(0, 0, 4), 0);
        x.spoil(0, 100);
        Due.is("one less than waits", x.come(0, 3), 3);
        Due.is("waiting", x.storeOf(0, 2), 1);
        Due.is("OUT", x.storeOf(0, 1), 17);
        Due.is("one more than waits", x.come(0, 2), 1);
        Due.is("RICE", x.storeOf(0, 0), 1);
        Due.is("more than there is", x.call(0, 0, 2), 1);
        Due.is("BALES", x.told(0, 2), 15);
        Due.is("served ever", x.storeOf(0, 3), 15);
    }

    private static void out() {
        Doc.says("OUT: paper with PERSONS and in the QUEUE.");
        RiceHall x = Halls.of(2, 2);
        Due.is("none", x.storeOf(0, 1), 0);
        x.issue(0, 0, 10, 2000);
        Due.is("though it isn't KNOWN", x.storeOf(0, 1), 10);
        Due.is("issue answers it", x.issue(0, 1, 5, 0), 15);
        x.call(0, 0, 4);
        Due.is("with what waits", x.storeOf(0, 1), 15);
        x.come(0, 1);
        Due.is("without what is served", x.storeOf(0, 1), 14);
        Due.is("of its own store", x.storeOf(1, 1), 0);
        Due.is("of its own store", x.issue(1, 1, 2, 0), 2);
    }

    private static void spoilsCut() {
        Doc.says("RICE SPOILS by p hundredths (of it, cut);");
        RiceHall x = Halls.of(0, 1);
        Due.is("of nothing", x.spoil(0, 100), 0);
        x.come(0, 1);
        Due.is("99 hundredths of 1", x.spoil(0, 99), 0);
        x.come(0, 98);
        Due.is("1 hundredth of 99", x.spoil(0, 1), 0);
        x.come(0, 1);
        Due.is("1 hundredth of 100", x.spoil(0, 1), 1);
        Due.is("100 hundredths of 99", x.spoil(0, 100), 99);
        for (int i = 0; i < 11; i++) {
            x.come(0, i < 10 ? 9999 : 9);
        }
        Due.is("99 hundredths of 99,999", x.spoil(0, 99), 98999);
        Due.is("RICE", x.storeOf(0, 0), 1000);
        Due.is("spoiled ever", x.storeOf(0, 4), 100 + 98999);
    }

    private static void spoilsHolders() {
        Doc.says("so does what each PERSON holds of the store's paper (each cut).");
        RiceHall x = Halls.of(3, 2);
        Due.rules(x, 0, "spoil holder;");
        x.issue(0, 0, 99, 0);
        x.issue(0, 1, 100, 0);
        x.issue(0, 2, 199, 0);
        x.issue(1, 0, 200, 0);
        x.come(1, 50);
        Due.is("spoil(0, 1)", x.spoil(0, 1), 0);
        Halls.told(x, 10, 99, 99, 198);
        x.call(2, 0, 98);
        Due.is("spoil(0, 99)", x.spoil(0, 99), 0);
        Halls.told(x, 10, 1, 1, 1);
        Due.is("what waits doesn't", x.storeOf(0, 2), 98);
        Due.is("spoil(0, 0)", x.spoil(0, 0), 0);
        Halls.told(x, 10, 1, 1, 1);
        Due.is("spoil(0, 100)", x.spoil(0, 100), 0);
        Halls.told(x, 10, 0, 0, 0);
        Due.is("OUT", x.storeOf(0, 1), 98);
        Halls.told(x, 11, 200, 0, 0);
        Due.is("rice spoils, too", x.spoil(1, 50), 25);
        Halls.told(x, 11, 100, 0, 0);
        Due.is("refused: nothing spoils", x.spoil(1, 101), -1);
        Halls.told(x, 11, 100, 0, 0);
        Due.rules(x, 0, "spoil store;");
        Due.is("rice alone", x.spoil(1, 100), 25);
        Halls.told(x, 11, 100, 0, 0);
    }

    private static void spoilIsAskedAhead() {
        Doc.says("if \"spoil holder\" is told (below; asked ahead of that)");
        RiceHall x = Halls.of(1, 1);
        Due.rules(x, 0, "if rice=10 spoil holder;");
        x.issue(0, 0, 100, 0);
        x.come(0, 20);
        Due.is("20 become 10", x.spoil(0, 50), 10);
        Halls.told(x, 10, 100);
        Due.is("10 become 5", x.spoil(0, 50), 5);
        Halls.told(x, 10, 50);
        RiceHall y = Halls.of(2, 1);
        Due.rules(y, 0, "if out>149 spoil holder;");
        y.issue(0, 0, 100, 0);
        y.issue(0, 1, 50, 0);
        y.spoil(0, 50);
        Halls.told(y, 10, 50, 25);
        y.spoil(0, 50);
        Halls.told(y, 10, 50, 25);
    }

    private static void overUpToNow() {
        Doc.says("OVER of a store as KNOWN by a minute (up to NOW):");
        RiceHall x = Halls.of(1, 1);
        x.issue(0, 0, 10, 5);
        Due.is("at first", x.over(0, 0), 0);
        x.pass(5);
        Due.is("over(0, 4)", x.over(0, 4), 0);
        Due.is("over(0, 5)", x.over(0, 5), 10);
        Due.is("over(0, 6)", x.over(0, 6), -1);
        Due.is("over(0, -1)", x.over(0, -1), -1);
    }

    private static void overZeroAtLeast() {
        Doc.says("less paper served, less paper spoiled, less RICE; 0 at least.");
        RiceHall x = Halls.of(1, 1);
        x.come(0, 9);
        Due.is("nothing issued", x.over(0, 0), 0);
        x.issue(0, 0, 9, 0);
        Due.is("as much as RICE", x.over(0, 0), 0);
        x.issue(0, 0, 1, 0);
        Due.is("one more", x.over(0, 0), 1);
        x.come(0, 2);
        Due.is("one less", x.over(0, 0), 0);
    }

    private static void overLessAll() {
        Doc.says("what was issued, KNOWN by then, less paper served, less paper spoiled");
        RiceHall x = Halls.of(1, 1);
        Due.rules(x, 0, "spoil holder;");
        x.issue(0, 0, 100, 0);
        x.issue(0, 0, 100, 1);
        x.come(0, 10);
        x.call(0, 0, 30);
        Due.is("10 served, 20 wait", x.over(0, 0), 90);
        x.spoil(0, 10);
        Due.is("17 spoiled of 170", x.over(0, 0), 73);
        x.come(0, 25);
        Due.is("30 served, 5 there", x.over(0, 0), 100 - 30 - 17 - 5);
        x.spoil(0, 20);
        Due.is("1 of 5 spoiled, and 30 of 153", x.over(0, 0), 100 - 30 - 47 - 4);
        x.pass(1);
        Due.is("what is served since then is less, too", x.over(0, 1), 200 - 30 - 47 - 4);
    }

    private static void cannot() {
        Doc.says("It CAN'T, if something has waited in its QUEUE 2,880 minutes or more.");
        RiceHall x = Halls.of(2, 2);
        x.issue(0, 0, 9, 0);
        x.issue(1, 0, 9, 0);
        x.pass(5);
        x.call(0, 0, 2);
        x.pass(1);
        x.call(0, 0, 2);
        x.pass(2878);
        Due.is("2,879 minutes", x.storeOf(0, 5), 0);
        x.pass(1);
        Due.is("2,880 minutes", x.storeOf(0, 5), 1);
        Due.is("the other store", x.storeOf(1, 5), 0);
        x.come(0, 1);
        Due.is("some of it waits still", x.storeOf(0, 5), 1);
        x.come(0, 1);
        Due.is("the next has waited 2,879", x.storeOf(0, 5), 0);
        x.pass(1);
        Due.is("and 2,880", x.storeOf(0, 5), 1);
        x.pass(3000);
        Due.is("or more", x.storeOf(0, 5), 1);
        x.come(0, 2);
        Due.is("nothing waits", x.storeOf(0, 5), 0);
    }

    private static void share() {
        Doc.says("SHARE of a store: RICE times 100 by OUT, cut, 100 at most (100 without OUT).");
        RiceHall x = Halls.of(1, 1);
        Due.is("without OUT or RICE", x.storeOf(0, 7), 100);
        x.issue(0, 0, 500, 0);
        Due.is("without RICE", x.storeOf(0, 7), 0);
        int[][] wants = {{4, 0}, {1, 1}, {490, 99}, {4, 99}, {1, 100}, {1, 100}, {9000, 100}};
        for (int[] want : wants) {
            x.come(0, want[0]);
            Due.is("SHARE with " + x.storeOf(0, 0) + " of 500", x.storeOf(0, 7), want[1]);
        }
        x.spoil(0, 100);
        x.come(0, 500);
        x.call(0, 0, 500);
        Due.is("all served: without OUT", x.storeOf(0, 7), 100);
        x.issue(0, 0, 1, 0);
        Due.is("one is out", x.storeOf(0, 7), 0);
        x.call(0, 0, 1);
        Due.is("one waits", x.storeOf(0, 7), 0);
    }

    private static void storePromise() {
        Doc.says("A STORE: its number. NONE: 4 are there.");
        RiceHall x = Halls.of(1, 3);
        Due.is("store()", x.store(), 3);
        State.refused(x, "store()", x::store, -1);
    }

    private static void issuePromise() {
        Doc.says("PAPER is issued: how much is OUT. NONE, doing nothing: not as told, 60 ISSUES.");
        RiceHall x = Halls.of(2, 2);
        Due.is("issue(1, 1, 3, 0)", x.issue(1, 1, 3, 0), 3);
        State.refused(x, "store 2", () -> x.issue(2, 0, 1, 0), -1);
        State.refused(x, "store -1", () -> x.issue(-1, 0, 1, 0), -1);
        State.refused(x, "person 2", () -> x.issue(0, 2, 1, 0), -1);
        State.refused(x, "person -1", () -> x.issue(0, -1, 1, 0), -1);
        for (int i = 1; i < 60; i++) {
            Due.is("issue(1, 1, 1, 0)", x.issue(1, 1, 1, 0), 3 + i);
        }
        State.refused(x, "the 61st", () -> x.issue(1, 1, 1, 0), -1);
    }

    private static void givePromise() {
        Doc.says("PAPER is given on: true; false, doing nothing: not as told (n 1 at least), not so much.");
        RiceHall x = Halls.of(2, 2);
        x.issue(0, 0, 5, 0);
        State.refused(x, "n 0", () -> x.give(0, 1, 0, 0) ? 1 : 0, 0);
        State.refused(x, "n -1", () -> x.give(0, 1, 0, -1) ? 1 : 0, 0);
        State.refused(x, "n least", () -> x.give(0, 1, 0, Integer.MIN_VALUE) ? 1 : 0, 0);
        State.refused(x, "6 of 5", () -> x.give(0, 1, 0, 6) ? 1 : 0, 0);
        State.refused(x, "n greatest", () -> x.give(0, 1, 0, Integer.MAX_VALUE) ? 1 : 0, 0);
        State.refused(x, "of the other store", () -> x.give(0, 1, 1, 1) ? 1 : 0, 0);
        State.refused(x, "of the other person", () -> x.give(1, 0, 0, 1) ? 1 : 0, 0);
        State.refused(x, "store 2", () -> x.give(0, 1, 2, 1) ? 1 : 0, 0);
        State.refused(x, "store -1", () -> x.give(0, 1, -1, 1) ? 1 : 0, 0);
        State.refused(x, "to 2", () -> x.give(0, 2, 0, 1) ? 1 : 0, 0);
        State.refused(x, "to -1", () -> x.give(0, -1, 0, 1) ? 1 : 0, 0);
        State.refused(x, "from 2", () -> x.give(2, 0, 0, 1) ? 1 : 0, 0);
        State.refused(x, "from -1", () -> x.give(-1, 0, 0, 1) ? 1 : 0, 0);
        Due.is("n 1", x.give(0, 1, 0, 1), true);
        Due.is("all", x.give(0, 1, 0, 4), true);
        Halls.told(x, 10, 0, 5);
    }

    private static void callPromise() {
        Doc.says("PAPER is CALLED: how much of it was served at once. NONE, doing nothing: not as told (n 1 at least), "
                + "not so much, 60 have waited.");
        RiceHall x = Halls.of(2, 2);
        x.issue(0, 0, 5, 0);
        x.come(0, 3);
        State.refused(x, "n 0", () -> x.call(0, 0, 0), -1);
        State.refused(x, "n -1", () -> x.call(0, 0, -1), -1);
        State.refused(x, "n least", () -> x.call(0, 0, Integer.MIN_VALUE), -1);
        State.refused(x, "6 of 5", () -> x.call(0, 0, 6), -1);
        State.refused(x, "of the other store", () -> x.call(0, 1, 1), -1);
        State.refused(x, "of the other person", () -> x.call(1, 0, 1), -1);
        State.refused(x, "store 2", () -> x.call(0, 2, 1), -1);
        State.refused(x, "store -1", () -> x.call(0, -1, 1), -1);
        State.refused(x, "person 2", () -> x.call(2, 0, 1), -1);
        State.refused(x, "person -1", () -> x.call(-1, 0, 1), -1);
        Due.is("one", x.call(0, 0, 1), 1);
        Due.is("all", x.call(0, 0, 4), 2);
        Due.is("count(11)", x.count(11), 2);
    }

    private static void comeBounds() {
        Doc.says("RICE COMES (1 to 9,999): how much was served by it. NONE, doing nothing: not as told");
        RiceHall x = Halls.of(1, 1);
        x.issue(0, 0, 500, 0);
        x.call(0, 0, 500);
        State.refused(x, "0 bales", () -> x.come(0, 0), -1);
        State.refused(x, "-1 bales", () -> x.come(0, -1), -1);
        State.refused(x, "10,000 bales", () -> x.come(0, 10000), -1);
        State.refused(x, "the most bales", () -> x.come(0, Integer.MAX_VALUE), -1);
        State.refused(x, "store 1", () -> x.come(1, 1), -1);
        State.refused(x, "store -1", () -> x.come(-1, 1), -1);
        Due.is("1 bale", x.come(0, 1), 1);
        Due.is("9,999 bales", x.come(0, 9999), 499);
        Due.is("RICE", x.storeOf(0, 0), 9500);
    }

    private static void comeFull() {
        Doc.says("there would be more than 99,999.");
        RiceHall x = Halls.of(0, 2);
        for (int i = 0; i < 10; i++) {
            x.come(0, 9999);
        }
        State.refused(x, "100,000", () -> x.come(0, 10), -1);
        State.refused(x, "far more", () -> x.come(0, 9999), -1);
        Due.is("99,999", x.come(0, 9), 0);
        State.refused(x, "one more", () -> x.come(0, 1), -1);
        Due.is("the other store has room", x.come(1, 9999), 0);
        x.spoil(0, 1);
        Due.is("as much as spoiled", x.come(0, 999), 0);
        State.refused(x, "one more", () -> x.come(0, 1), -1);
    }

    private static void spoilPromise() {
        Doc.says("RICE SPOILS (0 to 100 hundredths): how much. NONE: not as told.");
        RiceHall x = Halls.of(1, 1);
        Due.rules(x, 0, "spoil holder;");
        x.come(0, 77);
        x.issue(0, 0, 500, 0);
        State.refused(x, "-1", () -> x.spoil(0, -1), -1);
        State.refused(x, "101", () -> x.spoil(0, 101), -1);
        State.refused(x, "store 1", () -> x.spoil(1, 1), -1);
        State.refused(x, "store -1", () -> x.spoil(-1, 1), -1);
        State.refused(x, "0 spoils nothing", () -> x.spoil(0, 0), 0);
        Due.is("100", x.spoil(0, 100), 77);
    }

    private static void overPromise() {
        Doc.says("OVER. NONE: none such.");
        RiceHall x = Halls.of(1, 1);
        Due.is("store 1", x.over(1, 0), -1);
        Due.is("store -1", x.over(-1, 0), -1);
        Due.is("minute 0", x.over(0, 0), 0);
        Due.is("minute 1", x.over(0, 1), -1);
        Halls.passTo(x, 57600);
        Due.is("minute 57,600", x.over(0, 57600), 0);
        Due.is("minute 57,601", x.over(0, 57601), -1);
    }

    private static void storeOfPromise() {
        Doc.says("0 RICE, 1 OUT, 2 waiting in its QUEUE, 3 served ever, 4 spoiled RICE ever, 5 whether it CAN'T (1), "
                + "6 who waits first (NONE), 7 SHARE. NONE: none such.");
        RiceHall x = Halls.of(2, 2);
        int[] atFirst = {0, 0, 0, 0, 0, 0, -1, 100, -1, -1};
        for (int what = 0; what < atFirst.length; what++) {
            Due.is("at first: storeOf(1, " + what + ")", x.storeOf(1, what), atFirst[what]);
        }
        x.issue(1, 1, 20, 0);
        x.come(1, 10);
        x.spoil(1, 30);
        x.call(1, 1, 9);
        x.pass(2880);
        int[] wants = {0, 13, 2, 7, 3, 1, 1, 0, -1, -1};
        for (int what = 0; what < wants.length; what++) {
            Due.is("storeOf(1, " + what + ")", x.storeOf(1, what), wants[what]);
        }
        Due.is("storeOf(1, -1)", x.storeOf(1, -1), -1);
        Due.is("storeOf(2, 0)", x.storeOf(2, 0), -1);
        Due.is("storeOf(-1, 0)", x.storeOf(-1, 0), -1);
    }
}
