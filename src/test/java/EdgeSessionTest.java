/** Each edge that the document names of sessions, cries, books and the close (==== 4, promises 26 to 34). */
public final class EdgeSessionTest {
    private static final int[] RICH = {99999, 99999, 99999, 99999};

    private EdgeSessionTest() {
    }

    public static void main(String[] args) {
        twentyFourSessions();
        asLongAsFuse();
        fuseShorter();
        windOfOne();
        rulesOfTheMinute();
        rulesWithinOnePass();
        marketAsItIsWhilePassing();
        nothingLeft();
        sixtyCries();
        lotsAndPriceBounds();
        haltAndCalled();
        priceRefused();
        othersAlone();
        bestPriceFirst();
        firstToldFirst();
        asLongAsPricesMeet();
        asManyLotsAsBothHave();
        priceOfTheOneThatStood();
        standsTillTheEnd();
        noteBounds();
        lastNoteHolds();
        notedAlike();
        notedUnlike();
        onlyWhoDenied();
        elseItFalls();
        notDenied();
        gapEdge();
        deniedStillCloses();
        noCloseAllFall();
        gapAsAskedThen();
        lightPromise();
        cryOrder();
        cryNotAsTold();
        backPromise();
        notePromise();
        denyPromise();
        passPromise();
        sessionPromise();
        bargainPromise();
        bestPromise();
        Due.end();
    }

    private static RiceHall lit(String rules) {
        RiceHall x = Halls.ruled(rules, RICH);
        x.light();
        return x;
    }

    private static void bargain(RiceHall x, int session, int bargain, int... wants) {
        for (int what = 0; what < wants.length; what++) {
            Due.is("bargain(" + session + ", " + bargain + ", " + what + ")", x.bargain(session, bargain, what),
                    wants[what]);
        }
    }

    private static void stood(RiceHall x, int bargain, int lots, int price) {
        Due.is("lots as bargain " + bargain + " stood", x.bargain(0, bargain, 5), lots);
        Due.is("price as bargain " + bargain + " stood", x.bargain(0, bargain, 6), price);
    }

    private static void twentyFourSessions() {
        Doc.says("A SESSION (up to 24):");
        RiceHall x = Halls.ruled("burn 600;");
        for (int s = 0; s < 24; s++) {
            Due.is("light()", x.light(), s);
            x.pass(1);
        }
        State.refused(x, "the 25th", x::light, -1);
        Due.is("the last one's end", x.session(23, 1), 24);
    }

    private static void asLongAsFuse() {
        Doc.says("the fuse is lit, as long as FUSE.");
        RiceHall x = Halls.ruled("fuse 99999;burn 1;if day=1 fuse 1;");
        x.light();
        Due.is("as it's lit", x.session(0, 6), 99999);
        x.pass(1440);
        Due.is("another FUSE changes nothing", x.session(0, 6), 99999 - 1440);
        Halls.passTo(x, 57600);
        Due.is("it's on at the last minute", x.count(13), 1);
        Due.is("what is left", x.session(0, 6), 99999 - 57600);
        Due.is("ended", x.session(0, 1), -1);
    }

    private static void fuseShorter() {
        Doc.says("the fuse is shorter by BURN and GUST times WIND");
        RiceHall x = Halls.ruled("fuse 99999;burn 100;gust 7;");
        x.light();
        int left = 99999;
        for (int w = 0; w <= 9; w++) {
            x.wind(w);
            x.pass(3);
            left -= 3 * (100 + 7 * w);
            Due.is("left in the wind " + w, x.session(0, 6), left);
        }
        RiceHall y = Halls.ruled("fuse 99999;burn 99999;gust 99999;");
        y.wind(9);
        y.light();
        y.pass(1);
        Due.is("far shorter than nothing", y.session(0, 6), 0);
        Due.is("ended", y.session(0, 1), 1);
        RiceHall z = Halls.ruled("gust 0;");
        z.wind(9);
        z.light();
        z.pass(59);
        Due.is("no gust", z.session(0, 6), 10);
    }

    private static void windOfOne() {
        Doc.says("GUST times WIND (0 to 9;");
        RiceHall x = Halls.ruled("");
        x.light();
        x.wind(1);
        x.pass(1);
        Due.is("untold, in the wind 1", x.session(0, 6), 589);
        x.wind(0);
        x.pass(1);
        Due.is("in the wind 0", x.session(0, 6), 579);
        x.wind(9);
        x.pass(1);
        Due.is("in the wind 9", x.session(0, 6), 560);
    }

    private static void rulesOfTheMinute() {
        Doc.says("by THE RULES of the minute that goes by");
        RiceHall x = Halls.ruled("fuse 9999;burn 1;if hour=10 burn 100;if hour=11 gust 50;");
        x.light();
        x.wind(1);
        x.pass(10);
        Due.is("10 minutes", x.session(0, 6), 9999 - 20);
        x.pass(1);
        Due.is("the minute 10", x.session(0, 6), 9999 - 20 - 101);
        x.pass(1);
        Due.is("the minute 11", x.session(0, 6), 9999 - 20 - 101 - 51);
        x.pass(1);
        Due.is("the minute 12", x.session(0, 6), 9999 - 20 - 101 - 51 - 2);
    }

    private static void rulesWithinOnePass() {
        Doc.says("As a minute goes by (NOW is 1 more behind it)");
        RiceHall x = Halls.withTowns(1);
        x.road(0, 1, 0, 40);
        Due.rules(x, 0, "fuse 9999;burn 1;if hour>19 burn 3;if day=1 burn 7;");
        Due.rules(x, 1, "burn 5;if day=1 burn 11;");
        x.light();
        x.pass(100);
        Due.is("three burns in one pass", x.session(0, 6), 9999 - 20 - 3 * 20 - 5 * 60);
        x.pass(1345);
        Due.is("and over midnight", x.session(0, 6), 9999 - 20 - 60 - 5 * 1400 - 11 * 5);
    }

    private static void marketAsItIsWhilePassing() {
        Doc.says("RICE, OUT of all stores.)");
        RiceHall x = Halls.of(1, 1);
        Due.rules(x, 0, "burn 1;if rice>5 burn 20;if out>5 burn 30;if wind=2 burn 40;");
        x.light();
        x.come(0, 6);
        x.pass(1);
        Due.is("by the rice that came", x.session(0, 6), 580);
        x.issue(0, 0, 6, 0);
        x.pass(1);
        Due.is("by the paper that is out", x.session(0, 6), 550);
        x.wind(2);
        x.pass(1);
        Due.is("by the wind", x.session(0, 6), 508);
    }

    private static void nothingLeft() {
        Doc.says("if nothing is left of it the SESSION ENDS.");
        RiceHall x = Halls.ruled("fuse 20;burn 10;");
        x.light();
        x.pass(1);
        Due.is("some is left", x.session(0, 6), 10);
        Due.is("it's on", x.count(13), 1);
        x.pass(3);
        Due.is("nothing is left", x.session(0, 6), 0);
        Due.is("it ended at its minute", x.session(0, 1), 2);
        Due.is("none is on", x.count(13), 0);
        RiceHall y = Halls.ruled("fuse 21;burn 10;");
        y.light();
        y.pass(2);
        Due.is("one is left", y.session(0, 6), 1);
        Due.is("it's on", y.session(0, 1), -1);
        y.pass(1);
        Due.is("it ended", y.session(0, 1), 3);
        RiceHall z = Halls.ruled("fuse 1;burn 1;");
        z.light();
        Due.is("of one", z.session(0, 6), 1);
        z.pass(1);
        Due.is("ended", z.session(0, 1), 1);
    }

    private static void sixtyCries() {
        Doc.says("CRIES, up to 60 a SESSION:");
        RiceHall x = lit("burn 600;ceiling 50;");
        for (int c = 0; c < 60; c++) {
            Due.is("cry " + c, x.cry(c % 4, true, 1, c == 7 ? 51 : 1), c == 7 ? -3 : c);
        }
        State.refused(x, "the 61st", () -> x.cry(0, true, 1, 1), -1);
        State.refused(x, "the 61st at a price above", () -> x.cry(0, true, 1, 51), -1);
        State.refused(x, "back(60)", () -> x.back(60), -1);
        Due.is("back(59)", x.back(59), 1);
        Due.is("cries", x.session(0, 3), 60);
        x.pass(1);
        x.light();
        Due.is("in the next one", x.cry(0, true, 1, 1), 0);
    }

    private static void lotsAndPriceBounds() {
        Doc.says("a PERSON would buy or sell 1 to 50 lots at a price 1 to 9,999.");
        RiceHall x = lit("");
        State.refused(x, "0 lots", () -> x.cry(0, true, 0, 5), -1);
        State.refused(x, "-1 lots", () -> x.cry(0, false, -1, 5), -1);
        State.refused(x, "51 lots", () -> x.cry(0, true, 51, 5), -1);
        State.refused(x, "price 0", () -> x.cry(0, false, 1, 0), -1);
        State.refused(x, "price -1", () -> x.cry(0, false, 1, -1), -1);
        State.refused(x, "price 10,000", () -> x.cry(0, true, 1, 10000), -1);
        Due.is("1 lot at 1", x.cry(0, true, 1, 1), 0);
        Due.is("50 lots at 9,999", x.cry(0, false, 50, 9999), 1);
        Due.is("best(1)", x.best(1), 1);
        Due.is("best(3)", x.best(3), 50);
    }

    private static void haltAndCalled() {
        Doc.says("Refused: HALT; CALLED (below); a price below FLOOR or above CEILING");
        RiceHall x = Halls.ruled("burn 600;settle 99;if wind=1 halt;", 0, 99999, 99999);
        Halls.close(x, 0, 1, 1, 10);
        x.light();
        x.wind(1);
        State.refused(x, "HALT", () -> x.cry(1, true, 1, 10), -2);
        x.wind(2);
        State.refused(x, "CALLED", () -> x.cry(0, true, 1, 10), -4);
        Due.is("neither", x.cry(1, true, 1, 10), 0);
        x.pay(0, 99999);
        State.refused(x, "CALLED until the next close", () -> x.cry(0, true, 1, 10), -4);
        x.wind(1);
        Due.is("what stands may be taken back in a HALT", x.back(0), 1);
    }

    private static void priceRefused() {
        Doc.says("a price below FLOOR or above CEILING (such a CRY counts as one, but stands for nothing).");
        RiceHall x = lit("floor 100;ceiling 200;");
        Due.is("99", x.cry(0, true, 1, 99), -3);
        Due.is("201", x.cry(0, false, 1, 201), -3);
        Due.is("cries", x.session(0, 3), 2);
        for (int what = 0; what < 4; what++) {
            Due.is("best(" + what + ")", x.best(what), -1);
        }
        Due.is("back(0)", x.back(0), -1);
        Due.is("100", x.cry(1, false, 1, 100), 2);
        Due.is("it meets none", x.session(0, 4), 0);
        Due.is("200", x.cry(2, true, 1, 200), 3);
        Due.is("it meets", x.session(0, 4), 1);
        RiceHall y = lit("floor 200;ceiling 100;");
        Due.is("a floor above the ceiling", y.cry(0, true, 1, 150), -3);
        Due.is("at the floor", y.cry(0, true, 1, 200), -3);
        RiceHall z = lit("floor 10000;");
        Due.is("a floor above all prices", z.cry(0, true, 1, 9999), -3);
        RiceHall none = lit("ceiling 0;");
        Due.is("a ceiling below all prices", none.cry(0, true, 1, 1), -3);
    }

    private static void othersAlone() {
        Doc.says("Else it MEETS those of others that stand on the other side");
        RiceHall x = lit("");
        x.cry(0, false, 5, 10);
        x.cry(0, true, 5, 20);
        Due.is("not its own", x.session(0, 4), 0);
        x.cry(1, false, 1, 21);
        x.cry(2, false, 1, 20);
        bargain(x, 0, 0, 0, 2, 1, 20);
        x.cry(1, true, 9, 15);
        bargain(x, 0, 1, 1, 0, 5, 10);
        Due.is("bargains", x.session(0, 4), 2);
    }

    private static void bestPriceFirst() {
        Doc.says("best price first (for who buys the least, for who sells the greatest)");
        RiceHall x = lit("");
        x.cry(0, false, 1, 12);
        x.cry(0, false, 1, 11);
        x.cry(0, false, 1, 13);
        x.cry(1, true, 3, 20);
        bargain(x, 0, 0, 1, 0, 1, 11);
        bargain(x, 0, 1, 1, 0, 1, 12);
        bargain(x, 0, 2, 1, 0, 1, 13);
        x.cry(0, true, 1, 12);
        x.cry(0, true, 1, 13);
        x.cry(0, true, 1, 11);
        x.cry(1, false, 3, 5);
        bargain(x, 0, 3, 0, 1, 1, 13);
        bargain(x, 0, 4, 0, 1, 1, 12);
        bargain(x, 0, 5, 0, 1, 1, 11);
    }

    private static void firstToldFirst() {
        Doc.says("of one price the first told");
        RiceHall x = lit("");
        x.cry(2, false, 1, 12);
        x.cry(0, false, 1, 12);
        x.cry(1, false, 1, 12);
        x.cry(3, true, 3, 12);
        bargain(x, 0, 0, 3, 2, 1, 12);
        bargain(x, 0, 1, 3, 0, 1, 12);
        bargain(x, 0, 2, 3, 1, 1, 12);
        x.cry(2, true, 1, 12);
        x.cry(0, true, 1, 12);
        x.cry(3, false, 2, 12);
        bargain(x, 0, 3, 2, 3, 1, 12);
        bargain(x, 0, 4, 0, 3, 1, 12);
    }

    private static void asLongAsPricesMeet() {
        Doc.says("as long as prices meet:");
        RiceHall x = lit("");
        x.cry(0, false, 5, 12);
        x.cry(1, true, 5, 11);
        Due.is("one less than is asked", x.session(0, 4), 0);
        x.cry(1, true, 5, 12);
        Due.is("as much", x.session(0, 4), 1);
        x.cry(2, false, 2, 12);
        Due.is("one more than is offered", x.session(0, 4), 1);
        x.cry(2, false, 2, 11);
        bargain(x, 0, 1, 1, 2, 2, 11);
        x.cry(3, false, 1, 13);
        x.cry(0, true, 9, 12);
        bargain(x, 0, 2, 0, 2, 2, 12);
        Due.is("no more at 13", x.session(0, 4), 3);
        Due.is("the rest stands", x.best(1), 7);
    }

    private static void asManyLotsAsBothHave() {
        Doc.says("a BARGAIN of as many lots as both have");
        RiceHall x = lit("");
        x.cry(0, false, 50, 12);
        x.cry(1, true, 49, 12);
        bargain(x, 0, 0, 1, 0, 49, 12);
        Due.is("one is left", x.best(3), 1);
        x.cry(1, true, 2, 12);
        bargain(x, 0, 1, 1, 0, 1, 12);
        Due.is("one is left", x.best(1), 1);
        Due.is("none to sell", x.best(3), -1);
        x.cry(0, false, 1, 12);
        bargain(x, 0, 2, 1, 0, 1, 12);
        Due.is("none", x.best(0), -1);
        Due.is("none", x.best(2), -1);
    }

    private static void priceOfTheOneThatStood() {
        Doc.says("at the price of the one that stood.");
        RiceHall x = lit("");
        x.cry(0, false, 1, 10);
        x.cry(1, true, 1, 9999);
        bargain(x, 0, 0, 1, 0, 1, 10);
        x.cry(0, true, 1, 9999);
        x.cry(1, false, 1, 1);
        bargain(x, 0, 1, 0, 1, 1, 9999);
    }

    private static void standsTillTheEnd() {
        Doc.says("What is left stands till it's taken back or the SESSION ENDS.");
        RiceHall x = lit("fuse 20;burn 10;");
        x.cry(0, false, 5, 10);
        x.cry(1, false, 5, 10);
        x.pass(1);
        Due.is("both stand", x.best(3), 10);
        x.back(0);
        Due.is("one stands", x.best(3), 5);
        Due.is("at its price", x.best(2), 10);
        x.pass(1);
        Due.is("none stands", x.best(2), -1);
        x.light();
        Due.is("nor in the next one", x.best(2), -1);
        x.cry(2, true, 5, 10);
        Due.is("it meets nothing", x.session(1, 4), 0);
    }

    private static void noteBounds() {
        Doc.says("each side may note lots 1 to 99 and a price 1 to 9,999");
        RiceHall x = lit("burn 600;");
        Halls.deal(x, 0, 1, 5, 50);
        Halls.deal(x, 0, 1, 5, 50);
        x.deny(0, true);
        x.deny(1, false);
        Due.is("1 at 1", x.note(0, true, 1, 1), true);
        Due.is("99 at 9,999", x.note(1, false, 99, 9999), true);
        Due.is("0 lots", x.note(0, true, 0, 7), false);
        Due.is("100 lots", x.note(0, true, 100, 7), false);
        Due.is("price 0", x.note(0, true, 7, 0), false);
        Due.is("price 10,000", x.note(0, true, 7, 10000), false);
        Due.is("-1 lots", x.note(1, false, -1, 7), false);
        Due.is("price -1", x.note(1, false, 7, -1), false);
        x.pass(1);
        stood(x, 0, 1, 1);
        stood(x, 1, 99, 9999);
        Due.is("stood", x.session(0, 5), 2);
    }

    private static void lastNoteHolds() {
        Doc.says("(the last note holds).");
        RiceHall x = lit("burn 600;");
        Halls.deal(x, 0, 1, 5, 50);
        x.note(0, true, 9, 90);
        x.note(0, false, 1, 11);
        x.note(0, true, 3, 33);
        x.deny(0, true);
        x.note(0, false, 3, 33);
        Due.is("a wrong note is none", x.note(0, true, 100, 1), false);
        x.pass(1);
        stood(x, 0, 3, 33);
    }

    private static void notedAlike() {
        Doc.says("DENIED by a side it's judged as the SESSION ENDS: both noted alike: as noted;");
        RiceHall x = lit("burn 600;");
        Halls.deal(x, 0, 1, 5, 50);
        Halls.deal(x, 0, 1, 5, 50);
        x.note(0, true, 1, 60);
        x.note(0, false, 1, 60);
        x.deny(0, true);
        x.note(1, true, 99, 9999);
        x.note(1, false, 99, 9999);
        x.deny(1, false);
        stood(x, 0, 0, 0);
        x.pass(1);
        stood(x, 0, 1, 60);
        stood(x, 1, 99, 9999);
    }

    private static void notedUnlike() {
        Doc.says("both, not alike: the lesser lots at the mean price (cut);");
        RiceHall x = lit("burn 600;");
        int[][] notes = {{4, 60, 5, 60}, {5, 60, 4, 61}, {4, 60, 4, 63}, {4, 62, 4, 60}, {1, 1, 99, 4},
            {99, 9999, 98, 9998}, {2, 10, 1, 20}};
        int[][] wants = {{4, 60}, {4, 60}, {4, 61}, {4, 61}, {1, 2}, {98, 9998}, {1, 15}};
        for (int b = 0; b < notes.length; b++) {
            Halls.deal(x, 0, 1, 5, 50);
            x.note(b, true, notes[b][0], notes[b][1]);
            x.note(b, false, notes[b][2], notes[b][3]);
            x.deny(b, b % 2 == 0);
        }
        x.pass(1);
        for (int b = 0; b < wants.length; b++) {
            stood(x, b, wants[b][0], wants[b][1]);
        }
    }

    private static void onlyWhoDenied() {
        Doc.says("only the one who denied it (the first who did) noted: as noted;");
        RiceHall x = lit("burn 600;");
        for (int b = 0; b < 4; b++) {
            Halls.deal(x, 0, 1, 5, 50);
            boolean buyer = b % 2 == 0;
            x.note(b, buyer, 1, 60 + b);
            x.deny(b, buyer);
            if (b > 1) {
                x.deny(b, !buyer);
            }
        }
        x.pass(1);
        for (int b = 0; b < 4; b++) {
            stood(x, b, 1, 60 + b);
        }
        Due.is("stood", x.session(0, 5), 4);
        Due.is("POSITION", x.told(0, 1), 4);
    }

    private static void elseItFalls() {
        Doc.says("else it falls.");
        RiceHall x = lit("burn 600;");
        for (int b = 0; b < 6; b++) {
            Halls.deal(x, 0, 1, 5, 50);
            boolean buyer = b % 2 == 0;
            if (b > 1) {
                x.note(b, !buyer, 5, 50);
            }
            x.deny(b, buyer);
            if (b > 3) {
                x.deny(b, !buyer);
            }
        }
        x.pass(1);
        for (int b = 0; b < 6; b++) {
            stood(x, b, 0, 0);
        }
        Due.is("stood", x.session(0, 5), 0);
        Due.is("met", x.session(0, 4), 6);
        Due.is("POSITION", x.told(0, 1), 0);
        Due.is("it has a CLOSE all the same", x.session(0, 2), 50);
    }

    private static void notDenied() {
        Doc.says("One that isn't denied stands as it was met.");
        RiceHall x = lit("burn 600;");
        Halls.deal(x, 0, 1, 1, 50);
        Halls.deal(x, 0, 1, 5, 50);
        x.note(0, true, 9, 99);
        x.note(0, false, 8, 88);
        x.pass(1);
        stood(x, 0, 1, 50);
        stood(x, 1, 5, 50);
        Due.is("stood", x.session(0, 5), 2);
    }

    private static void gapEdge() {
        Doc.says("is of a minute of NOW less GAP or later, its price is the CLOSE;");
        int[] gaps = {0, 1, 5, 10, 19};
        for (int gap : gaps) {
            for (int ahead = Math.max(1, gap - 1); ahead <= gap + 1 && ahead <= 20; ahead++) {
                RiceHall x = lit("fuse 20;burn 1;gap " + gap + ";");
                if (ahead < 20) {
                    x.pass(20 - ahead);
                }
                Halls.deal(x, 0, 1, 1, 50);
                x.pass(ahead);
                Due.is("ended", x.session(0, 1), 20);
                Due.is("gap " + gap + ", " + ahead + " ahead of the end", x.session(0, 2), ahead <= gap ? 50 : -1);
            }
        }
        RiceHall y = lit("burn 600;gap 0;");
        Halls.deal(y, 0, 1, 1, 50);
        y.pass(1);
        Due.is("with a gap of 0 there's never one", y.session(0, 2), -1);
        RiceHall z = lit("fuse 20;burn 1;gap 99999;");
        z.pass(20);
        Due.is("nor without a bargain", z.session(0, 2), -1);
        z.light();
        Halls.deal(z, 0, 1, 1, 50);
        z.pass(20);
        Due.is("a gap longer than all minutes", z.session(1, 2), 50);
    }

    private static void deniedStillCloses() {
        Doc.says("ENDED: if the last BARGAIN met (denied or not)");
        RiceHall x = lit("burn 600;");
        Halls.deal(x, 0, 1, 1, 50);
        Halls.deal(x, 0, 1, 1, 70);
        x.deny(1, true);
        x.note(1, true, 2, 60);
        x.pass(1);
        Due.is("the price as it was met", x.session(0, 2), 70);
        RiceHall y = lit("fuse 20;burn 1;gap 5;");
        y.pass(18);
        Halls.deal(y, 0, 1, 1, 70);
        y.cry(2, false, 1, 60);
        y.pass(1);
        y.cry(3, true, 1, 90);
        y.pass(1);
        Due.is("the last that was met", y.session(0, 2), 60);
    }

    private static void noCloseAllFall() {
        Doc.says("else there is none: all BARGAINS of it fall.");
        RiceHall x = lit("fuse 20;burn 1;gap 5;");
        Halls.deal(x, 0, 1, 1, 50);
        Halls.deal(x, 0, 1, 2, 60);
        x.deny(1, true);
        x.note(1, true, 2, 60);
        x.pass(20);
        Due.is("no close", x.session(0, 2), -1);
        stood(x, 0, 0, 0);
        stood(x, 1, 0, 0);
        Due.is("met", x.session(0, 4), 2);
        Due.is("stood", x.session(0, 5), 0);
        Due.is("count(5)", x.count(5), 0);
        Halls.told(x, 1, 0, 0);
        Halls.coins(x, 99999, 99999);
        Due.is("denied it was", x.bargain(0, 1, 7), 1);
    }

    private static void gapAsAskedThen() {
        Doc.says("(GAP as it's asked then; all below with the new CLOSE told and counted.)");
        RiceHall x = lit("fuse 20;burn 1;gap 0;if hour=20 gap 20;if sessions=1 gap 0;if close>0 gap 0;");
        Halls.deal(x, 0, 1, 1, 50);
        x.pass(20);
        Due.is("at the minute of the end, without the new close", x.session(0, 2), 50);
        RiceHall y = lit("fuse 20;burn 1;gap 20;if hour=20 gap 0;");
        Halls.deal(y, 0, 1, 1, 50);
        y.pass(20);
        Due.is("not as it was the minute ahead", y.session(0, 2), -1);
        RiceHall z = Halls.ruled("burn 600;margin 0;if close=50 margin 9;if sessions=1 grace 0;if sessions=2 settle 1;",
                RICH);
        Halls.close(z, 0, 1, 1, 50);
        Halls.told(z, 1, 1, -1);
        Halls.close(z, 2, 3, 1, 51);
        Halls.told(z, 1, 0, 0, 0, 0);
    }

    private static void lightPromise() {
        Doc.says("A SESSION begins: its number. NONE, doing nothing: one is on, 24 were.");
        RiceHall x = Halls.ruled("fuse 20;burn 10;", RICH);
        for (int s = 0; s < 24; s++) {
            Due.is("light()", x.light(), s);
            x.pass(1);
            State.refused(x, "one is on", x::light, -1);
            x.pass(1);
        }
        State.refused(x, "24 were", x::light, -1);
        Due.is("count(4)", x.count(4), 24);
    }

    private static void cryOrder() {
        Doc.says("Refused, doing nothing, at the first of: NONE not as told, no SESSION is on, 60 CRIES; -2 HALT; -4 "
                + "CALLED; -3 (it counts as a CRY) the price.");
        RiceHall x = Halls.ruled("burn 600;settle 99;floor 5;if wind=1 halt;", 0, 99999, 99999);
        Halls.close(x, 0, 1, 1, 10);
        Due.is("it's CALLED", x.told(0, 3), 1);
        State.refused(x, "no session", () -> x.cry(0, true, 1, 1), -1);
        x.light();
        x.wind(1);
        State.refused(x, "not as told, halt, called, the price", () -> x.cry(0, true, 0, 1), -1);
        State.refused(x, "halt, called, the price", () -> x.cry(0, true, 1, 1), -2);
        State.refused(x, "halt", () -> x.cry(1, true, 1, 10), -2);
        x.wind(0);
        State.refused(x, "called, the price", () -> x.cry(0, true, 1, 1), -4);
        State.refused(x, "called", () -> x.cry(0, true, 1, 10), -4);
        Due.is("the price", x.cry(1, true, 1, 4), -3);
        Due.is("it counts", x.session(1, 3), 1);
        Due.is("the next", x.cry(1, true, 1, 5), 1);
        for (int c = 2; c < 60; c++) {
            x.cry(1, true, 1, 5);
        }
        x.wind(1);
        State.refused(x, "60, halt, called, the price", () -> x.cry(0, true, 1, 1), -1);
    }

    private static void cryNotAsTold() {
        Doc.says("A CRY: its number in the SESSION.");
        RiceHall x = lit("");
        State.refused(x, "person 4", () -> x.cry(4, true, 1, 1), -1);
        State.refused(x, "person -1", () -> x.cry(-1, true, 1, 1), -1);
        State.refused(x, "most lots", () -> x.cry(0, true, Integer.MAX_VALUE, 1), -1);
        State.refused(x, "greatest price", () -> x.cry(0, true, 1, Integer.MAX_VALUE), -1);
        for (int c = 0; c < 4; c++) {
            Due.is("its number", x.cry(c, true, 1, 1), c);
        }
    }

    private static void backPromise() {
        Doc.says("A CRY of the SESSION that is on is taken back: lots that stood. NONE: none such, nothing of it "
                + "stands.");
        RiceHall x = Halls.ruled("fuse 20;burn 10;ceiling 99;", RICH);
        Due.is("no session", x.back(0), -1);
        x.light();
        x.cry(0, true, 50, 10);
        x.cry(1, false, 49, 10);
        x.cry(2, true, 7, 10);
        x.cry(2, true, 7, 100);
        State.refused(x, "back(4)", () -> x.back(4), -1);
        State.refused(x, "back(-1)", () -> x.back(-1), -1);
        State.refused(x, "met whole", () -> x.back(1), -1);
        State.refused(x, "refused for its price", () -> x.back(3), -1);
        Due.is("one is left of 50", x.back(0), 1);
        Due.is("what stands still", x.best(1), 7);
        State.refused(x, "twice", () -> x.back(0), -1);
        Due.is("all of it", x.back(2), 7);
        Due.is("nothing stands", x.best(0), -1);
        x.cry(3, true, 4, 10);
        x.pass(2);
        State.refused(x, "it ended", () -> x.back(4), -1);
        x.light();
        State.refused(x, "of an earlier one", () -> x.back(4), -1);
    }

    private static void notePromise() {
        Doc.says("A note in the BOOK of the buyer (true) or seller of a BARGAIN of the SESSION that is on: true; "
                + "false: not as told.");
        RiceHall x = Halls.ruled("burn 600;", RICH);
        Due.is("no session", x.note(0, true, 1, 1), false);
        x.light();
        Due.is("no bargain", x.note(0, true, 1, 1), false);
        Halls.deal(x, 0, 1, 5, 50);
        Due.is("bargain 1", x.note(1, true, 1, 1), false);
        Due.is("bargain -1", x.note(-1, true, 1, 1), false);
        Due.is("the seller's", x.note(0, false, 4, 44), true);
        x.deny(0, false);
        x.pass(1);
        Due.is("it ended", x.note(0, false, 1, 1), false);
        stood(x, 0, 4, 44);
        x.light();
        Due.is("of an earlier one", x.note(0, true, 1, 1), false);
    }

    private static void denyPromise() {
        Doc.says("A BARGAIN of the SESSION that is on is DENIED: true; false: none such, by that side it is.");
        RiceHall x = Halls.ruled("burn 600;", RICH);
        State.refused(x, "no session", () -> x.deny(0, true) ? 1 : 0, 0);
        x.light();
        State.refused(x, "no bargain", () -> x.deny(0, true) ? 1 : 0, 0);
        Halls.deal(x, 0, 1, 5, 50);
        State.refused(x, "bargain 1", () -> x.deny(1, true) ? 1 : 0, 0);
        State.refused(x, "bargain -1", () -> x.deny(-1, true) ? 1 : 0, 0);
        Due.is("not yet", x.bargain(0, 0, 7), 0);
        Due.is("by the buyer", x.deny(0, true), true);
        Due.is("denied", x.bargain(0, 0, 7), 1);
        State.refused(x, "by the buyer again", () -> x.deny(0, true) ? 1 : 0, 0);
        Due.is("by the seller", x.deny(0, false), true);
        State.refused(x, "by the seller again", () -> x.deny(0, false) ? 1 : 0, 0);
        Halls.deal(x, 0, 1, 5, 50);
        x.pass(1);
        State.refused(x, "it ended", () -> x.deny(1, true) ? 1 : 0, 0);
        x.light();
        State.refused(x, "of an earlier one", () -> x.deny(1, true) ? 1 : 0, 0);
    }

    private static void passPromise() {
        Doc.says("n minutes (1 to 3,000) go by: NOW. NONE, doing nothing: another n, above 57,600.");
        RiceHall x = lit("burn 1;fuse 99999;");
        State.refused(x, "pass(0)", () -> x.pass(0), -1);
        State.refused(x, "pass(-1)", () -> x.pass(-1), -1);
        State.refused(x, "pass(least)", () -> x.pass(Integer.MIN_VALUE), -1);
        State.refused(x, "pass(3001)", () -> x.pass(3001), -1);
        State.refused(x, "pass(greatest)", () -> x.pass(Integer.MAX_VALUE), -1);
        Due.is("pass(1)", x.pass(1), 1);
        Due.is("pass(3000)", x.pass(3000), 3001);
        Halls.passTo(x, 55000);
        State.refused(x, "2,601 of 2,600", () -> x.pass(2601), -1);
        State.refused(x, "3,000 of 2,600", () -> x.pass(3000), -1);
        Due.is("2,600", x.pass(2600), 57600);
        State.refused(x, "one more", () -> x.pass(1), -1);
        Due.is("what is left of the fuse", x.session(0, 6), 99999 - 57600);
    }

    private static void sessionPromise() {
        Doc.says("0 the minute it was lit, 1 that at which it ENDED (NONE), 2 the CLOSE (NONE), 3 CRIES, 4 BARGAINS "
                + "met, 5 BARGAINS that stood (0 till it ENDED), 6 what is left of the fuse (0 ENDED). NONE: none such.");
        RiceHall x = Halls.ruled("fuse 25;burn 10;ceiling 60;", RICH);
        Due.is("session(0, 0)", x.session(0, 0), -1);
        x.pass(7);
        x.light();
        x.pass(2);
        x.cry(0, true, 9, 61);
        Halls.deal(x, 0, 1, 5, 50);
        Halls.deal(x, 0, 1, 5, 50);
        x.deny(1, true);
        int[] on = {7, -1, -1, 5, 2, 0, 5, -1};
        for (int what = 0; what < on.length; what++) {
            Due.is("it's on: session(0, " + what + ")", x.session(0, what), on[what]);
        }
        x.pass(1);
        int[] ended = {7, 10, 50, 5, 2, 1, 0, -1};
        for (int what = 0; what < ended.length; what++) {
            Due.is("it ended: session(0, " + what + ")", x.session(0, what), ended[what]);
        }
        Due.is("session(0, -1)", x.session(0, -1), -1);
        Due.is("session(1, 0)", x.session(1, 0), -1);
        Due.is("session(-1, 0)", x.session(-1, 0), -1);
    }

    private static void bargainPromise() {
        Doc.says("0 buyer, 1 seller, 2 lots, 3 price, 4 minute, 5 lots as it stood (0 fell, till it ENDED), 6 price as "
                + "it stood (0 likewise), 7 whether it was DENIED (1). NONE: none such.");
        RiceHall x = Halls.ruled("fuse 20;burn 10;", RICH);
        Due.is("bargain(0, 0, 0)", x.bargain(0, 0, 0), -1);
        x.pass(4);
        x.light();
        Due.is("none yet", x.bargain(0, 0, 0), -1);
        x.cry(2, false, 5, 50);
        x.pass(1);
        x.cry(3, true, 5, 55);
        bargain(x, 0, 0, 3, 2, 5, 50, 5, 0, 0, 0, -1);
        Halls.deal(x, 0, 1, 7, 70);
        x.deny(1, false);
        x.pass(1);
        bargain(x, 0, 0, 3, 2, 5, 50, 5, 5, 50, 0, -1);
        bargain(x, 0, 1, 0, 1, 7, 70, 5, 0, 0, 1, -1);
        Due.is("what -1", x.bargain(0, 0, -1), -1);
        Due.is("bargain 2", x.bargain(0, 2, 0), -1);
        Due.is("bargain -1", x.bargain(0, -1, 0), -1);
        Due.is("session 1", x.bargain(1, 0, 0), -1);
        Due.is("session -1", x.bargain(-1, 0, 0), -1);
    }

    private static void bestPromise() {
        Doc.says("Of the SESSION that is on: the best price that stands to buy (what 0), its lots together (1), to sell "
                + "(2), (3). NONE: none.");
        RiceHall x = Halls.ruled("fuse 20;burn 10;", RICH);
        Due.is("none is on", x.best(0), -1);
        x.light();
        x.cry(0, true, 1, 1);
        bests(x, 1, 1, -1, -1);
        x.cry(1, false, 1, 9999);
        bests(x, 1, 1, 9999, 1);
        x.cry(1, true, 50, 1);
        x.cry(2, true, 50, 1);
        x.cry(0, false, 50, 9999);
        bests(x, 1, 101, 9999, 51);
        x.cry(3, true, 1, 2);
        x.cry(3, false, 1, 9998);
        bests(x, 2, 1, 9998, 1);
        x.back(5);
        x.back(6);
        bests(x, 1, 101, 9999, 51);
        x.back(2);
        bests(x, 1, 51, 9999, 51);
        Due.is("best(4)", x.best(4), -1);
        Due.is("best(-1)", x.best(-1), -1);
        x.pass(2);
        bests(x, -1, -1, -1, -1);
    }

    private static void bests(RiceHall x, int... wants) {
        for (int what = 0; what < 4; what++) {
            Due.is("best(" + what + ")", x.best(what), wants[what]);
        }
    }
}
