import java.util.Arrays;
import java.util.List;

/** Each edge that the document names of the rules' text and of when they hold (==== 3, promises 20 to 25). */
public final class EdgeRulesTest {
    private static final List<String> NUMBERED = List.of("floor", "ceiling", "margin", "fuse", "burn", "gust", "gap",
            "grace", "settle");
    private static final List<String> NAMES = List.of("day", "hour", "wind", "close", "sessions", "rice", "out");
    private static final List<String> REST = List.of("spoil", "halt", "store", "holder", "if", "or", "and", "not", "<",
            ">", "=", ";", "(", ")", "1", "99999", "100000", "x", "floors", "IF", "!", "-", "\"");
    private static final int[] UNTOLD = {0, 99999, 10, 600, 10, 1, 10, 1440, 4, 0, 0};

    private EdgeRulesTest() {
    }

    public static void main(String[] args) {
        whatMayFollow();
        numberOfDigits();
        oneAtLeast();
        tokensAsLongAsTheyGo();
        lettersAndDigits();
        blanks();
        opensInOneAnother();
        ninthOpen();
        twentyFourStatements();
        twentyFifthStatement();
        firstToken();
        byteThatBeginsNone();
        numberBeyond();
        textsLength();
        allOrNothingOfAText();
        fromWhenHeard();
        upToEight();
        thatCannotBeHeard();
        heardLast();
        toldLast();
        lastActThatHolds();
        untold();
        factsOfTheClock();
        factsOfTheMarket();
        orAndNot();
        theGreatestNumber();
        feedPromise();
        feedOrder();
        feedFull();
        rulesTakeTheFirst();
        rulesMinusTwo();
        rulesMinusThree();
        rulesMinusFour();
        faultPromise();
        rulePromise();
        heardPromise();
        windPromise();
        Due.end();
    }

    /** The place of a text's fault, or that there is none. */
    private static void fault(String text, int want) {
        RiceHall x = new RiceHall();
        Due.is("rules of '" + text + "'", Due.rules(x, 0, text), want == -1 ? 0 : -1);
        Due.is("fault of '" + text + "'", x.fault(), want);
    }

    private static String repeat(String text, int times) {
        StringBuilder all = new StringBuilder();
        for (int i = 0; i < times; i++) {
            all.append(text);
        }
        return all.toString();
    }

    private static void whatMayFollow() {
        Doc.says("THE RULES are a text: {[\"if\" COND] ACT \";\"}.");
        String[] acts = words(NUMBERED, "spoil", "halt");
        String[] facts = words(NAMES, "not", "(");
        String[] numbers = {"1", "99999"};
        String[] statement = words(Arrays.asList(acts), "if");
        follow("", false, statement);
        follow("halt;", false, statement);
        follow("if day<1 halt;", false, statement);
        follow("halt", true, ";");
        Doc.says("ACT: (\"floor\" | \"ceiling\" | \"margin\" | \"fuse\" | \"burn\" | \"gust\" | \"gap\" | \"grace\" | "
                + "\"settle\") NUMBER | \"spoil\" (\"store\" | \"holder\") | \"halt\".");
        for (String word : NUMBERED) {
            follow(word, true, numbers);
            follow(word + " 1", true, ";");
        }
        follow("spoil", true, "store", "holder");
        follow("spoil store", true, ";");
        follow("spoil holder", true, ";");
        Doc.says("COND: ALL {\"or\" ALL}. ALL: FACT {\"and\" FACT}.");
        String[] behind = words(Arrays.asList(acts), "or", "and");
        follow("if day<1", true, behind);
        follow("if not day<1", true, behind);
        follow("if (day<1)", true, behind);
        follow("if day<1 or day<1", true, behind);
        follow("if day<1 or", true, facts);
        follow("if day<1 and", true, facts);
        Doc.says("FACT: \"not\" FACT | \"(\" COND \")\" | NAME (\"<\" | \">\" | \"=\") NUMBER.");
        follow("if", true, facts);
        follow("if not", true, facts);
        follow("if (", true, facts);
        follow("if (day<1", true, "or", "and", ")");
        follow("if not (not day<1", true, "or", "and", ")");
        follow("if ((day<1)", true, "or", "and", ")");
        Doc.says("NAME: day, hour, wind, close, sessions, rice, out.");
        for (String name : NAMES) {
            follow("if " + name, true, "<", ">", "=");
            follow("if " + name + " <", true, numbers);
            follow("if " + name + " >", true, numbers);
            follow("if " + name + " =", true, numbers);
        }
    }

    private static String[] words(List<String> some, String... more) {
        String[] all = Arrays.copyOf(some.toArray(new String[0]), some.size() + more.length);
        System.arraycopy(more, 0, all, some.size(), more.length);
        return all;
    }

    /** Every token there is, and some that there aren't, behind a text that has no fault so far. */
    private static void follow(String text, boolean mustGoOn, String... may) {
        fault(text, mustGoOn ? text.length() : -1);
        for (List<String> tokens : List.of(NUMBERED, NAMES, REST)) {
            for (String token : tokens) {
                String longer = text + " " + token;
                int end = token.equals(";") ? -1 : longer.length();
                fault(longer, Arrays.asList(may).contains(token) ? end : text.length() + 1);
            }
        }
    }

    private static void numberOfDigits() {
        Doc.says("NUMBER: one to five digits;");
        fault("floor ;", 6);
        fault("floor 0;", -1);
        fault("floor 9;", -1);
        fault("floor 12345;", -1);
        fault("floor 99999;", -1);
        fault("floor 00000;", -1);
        fault("floor 100000;", 6);
        fault("floor 000000;", 6);
        fault("floor 000001;", 6);
        fault("if day<99999 halt;", -1);
        fault("if day<099999 halt;", 7);
        fault("floor 99999999999999999999;", 6);
        RiceHall x = Halls.ruled("floor 00042;ceiling 99999;gap 0;");
        Due.is("rule(0)", x.rule(0), 42);
        Due.is("rule(1)", x.rule(1), 99999);
        Due.is("rule(6)", x.rule(6), 0);
    }

    private static void oneAtLeast() {
        Doc.says("of \"fuse\", \"burn\", \"settle\" 1 at least.");
        for (String word : NUMBERED) {
            boolean one = List.of("fuse", "burn", "settle").contains(word);
            fault(word + " 0;", one ? word.length() + 1 : -1);
            fault(word + " 00000;", one ? word.length() + 1 : -1);
            fault(word + " 0", word.length() + (one ? 1 : 2));
            fault(word + " 1;", -1);
            fault(word + " 00001;", -1);
        }
    }

    private static void tokensAsLongAsTheyGo() {
        Doc.says("Tokens as long as they go: words of letters a to z, digits, signs;");
        fault("floor5;", -1);
        fault("floor5;gap6;", -1);
        fault("if(day<1)halt;", -1);
        fault("ifday<1 halt;", 0);
        fault("if day<1halt;", -1);
        fault("if day<1and hour<1or wind<1halt;", -1);
        fault("if notday<1 halt;", 3);
        fault("if not(day<1)or(day>1)and not hour=5 halt;", -1);
        fault("haltfloor 1;", 0);
        fault("floor 1 2;", 8);
        fault("floor 12 3;", 9);
        fault("fl oor 1;", 0);
        fault("if day<=1 halt;", 7);
        fault("if day=<1 halt;", 7);
        fault("if day<>1 halt;", 7);
        fault("if day==1 halt;", 7);
        fault("floor 1a;", 7);
        fault("floor 1floor 2;", 7);
        fault("spoilstore;", 0);
        fault("halt;;", 5);
    }

    private static void lettersAndDigits() {
        Doc.says("words of letters a to z, digits");
        fault("halt`", 4);
        fault("halt{", 4);
        fault("halT;", 0);
        fault("Halt;", 0);
        fault("haltZ;", 4);
        fault("haltz;", 0);
        fault("halta;", 0);
        fault("floor 1/", 7);
        fault("floor 1:", 7);
        fault("floor /1;", 6);
        fault("floor :1;", 6);
        fault("floor 0123456789;", 6);
        fault("gap 12340;grace 56789;", -1);
    }

    private static void blanks() {
        Doc.says("between them blanks (bytes 32 and 10).");
        fault("  halt  ;  ", -1);
        fault("\nhalt\n\n;\n", -1);
        fault(" \n \n", -1);
        fault("floor \n 1 \n ;", -1);
        for (int b = 0; b < 256; b++) {
            boolean letter = b >= 'a' && b <= 'z';
            boolean blank = b == 32 || b == 10;
            fault("halt" + (char) b + ";", letter ? 0 : b == ';' ? 5 : blank ? -1 : 4);
        }
    }

    private static void opensInOneAnother() {
        Doc.says("\"not\" and \"(\" at most 8 open in one another.");
        fault("if " + repeat("(", 8) + "day<1" + repeat(")", 8) + "halt;", -1);
        fault("if " + repeat("not ", 8) + "day<1 halt;", -1);
        fault("if " + repeat("not(", 4) + "day<1" + repeat(")", 4) + "halt;", -1);
        fault("if " + repeat("(not ", 4) + "day<1" + repeat(")", 4) + "halt;", -1);
        fault("if " + repeat("(", 8) + "day<1 or day<1 and day<1" + repeat(")", 8) + "halt;", -1);
        fault("if " + repeat("(", 8) + "day<1" + repeat(")", 8) + "and " + repeat("(", 8) + "day<1" + repeat(")", 8)
                + "halt;", -1);
        fault("if " + repeat("not ", 8) + "day<1 or " + repeat("not ", 8) + "day<1 halt;", -1);
        fault("if " + repeat("(", 7) + "not day<1 and not day<1" + repeat(")", 7) + "halt;", -1);
        fault(repeat("if " + repeat("(", 8) + "day<1" + repeat(")", 8) + "halt;", 3), -1);
    }

    private static void ninthOpen() {
        Doc.says("(a number beyond its bounds, the ninth open, too);");
        fault("if " + repeat("(", 9) + "day<1" + repeat(")", 9) + "halt;", 11);
        fault("if " + repeat("not ", 9) + "day<1 halt;", 3 + 4 * 8);
        fault("if " + repeat("(", 8) + "not day<1" + repeat(")", 8) + "halt;", 11);
        fault("if " + repeat("not ", 8) + "(day<1)halt;", 3 + 4 * 8);
        fault("if " + repeat("not(", 4) + "day<1 or not day<1" + repeat(")", 4) + "halt;", 3 + 4 * 4 + 9);
        fault("if " + repeat("(", 8) + "day<1 and (day<1)" + repeat(")", 8) + "halt;", 3 + 8 + 10);
        fault("if " + repeat("(", 8) + "day<1)and((day<1))" + repeat(")", 7) + "halt;", 3 + 8 + 10);
        fault("if " + repeat("(", 8), 11);
        fault("if " + repeat("(", 9), 11);
    }

    private static void twentyFourStatements() {
        Doc.says("At most 24 statements.");
        fault(repeat("halt;", 24), -1);
        fault(repeat("if day<1 halt;", 24), -1);
        fault(repeat("halt;", 24) + " \n ", -1);
        StringBuilder text = new StringBuilder();
        for (int i = 1; i <= 24; i++) {
            text.append("gap ").append(i).append(";");
        }
        RiceHall x = Halls.ruled(text.toString());
        Due.is("the 24th holds", x.rule(6), 24);
    }

    private static void twentyFifthStatement() {
        Doc.says("the 25th statement: where it begins.");
        fault(repeat("halt;", 24) + "halt;", 120);
        fault(repeat("halt;", 24) + " \nhalt;", 122);
        fault(repeat("halt;", 24) + "if day<1 halt;", 120);
        fault(repeat("halt;", 24) + "halt", 120);
        fault(repeat("halt;", 24) + "x", 120);
        fault(repeat("halt;", 25) + "x", 120);
        fault(repeat("halt;", 23) + "x" + repeat("halt;", 9), 115);
    }

    private static void firstToken() {
        Doc.says("FAULT: the place of the first byte of the first token");
        fault("x", 0);
        fault("floorx 1;", 0);
        fault("halt; floorx 1; haltx;", 6);
        fault("halt;if day<1 or or day<1 halt;", 17);
        fault("halt x", 5);
        fault("if hour<1 floor 1;if hours<1 floor 1;", 21);
        fault("floor 1; spoil rice; !", 15);
        fault(repeat(";", 500), 0);
        fault("if " + repeat("(", 497), 11);
        fault("halt;" + repeat(")", 495), 5);
    }

    private static void byteThatBeginsNone() {
        Doc.says("(or byte that begins none) with which no such text goes on");
        fault("!", 0);
        fault("halt!;", 4);
        fault("halt;  !", 7);
        fault("halt;\t", 5);
        fault("halt;" + (char) 0, 5);
        fault("halt;" + (char) 255, 5);
        fault("halt;" + (char) 160 + "halt;", 5);
        fault("floor +1;", 6);
        fault("floor 1.5;", 7);
        fault("if day!1 halt;", 6);
        fault("if day&1 !", 6);
    }

    private static void numberBeyond() {
        Doc.says("(a number beyond its bounds");
        fault("floor 1;gap 123456;", 12);
        fault("floor 1;gap 123456", 12);
        fault("floor 1;burn 0;", 13);
        fault("if day<1 settle 00;", 16);
        fault("if day>100000 halt;", 7);
    }

    private static void textsLength() {
        Doc.says("the text's length, if more must come;");
        String whole = "if not(day<1 or hour>2)and wind=3 spoil holder;";
        String[] tokens = {"if", "not", "(", "day", "<", "1", "or", "hour", ">", "2", ")", "and", "wind", "=", "3",
            "spoil", "holder"};
        int at = 0;
        for (String token : tokens) {
            at = whole.indexOf(token, at) + token.length();
            fault(whole.substring(0, at), at);
            fault(whole.substring(0, at) + " \n ", at + 3);
        }
        fault(whole, -1);
        fault("halt", 4);
        fault("halt;floor", 10);
        fault(repeat(" ", 496) + "halt", 500);
        fault(repeat(" ", 495) + "halt;", -1);
        fault(repeat("\n", 500), -1);
    }

    private static void allOrNothingOfAText() {
        Doc.says("The first n bytes of the tape (which is empty then) are THE RULES told in a TOWN: their number. "
                + "NONE: a FAULT;");
        RiceHall x = Halls.ruled("floor 1;");
        Due.is("a fault at the end", Due.rules(x, 0, "floor 2;if day<1 and hour<9 gap 3;halt"), -1);
        Due.is("nothing of it holds", x.rule(0), 1);
        Due.is("count(9)", x.count(9), 1);
        Due.is("a right one behind it", Due.rules(x, 0, "if day>5 floor 3;if not day>5 gap 4;"), 1);
        Due.is("nothing of the wrong one is in it", x.rule(0), 0);
        Due.is("its own holds", x.rule(6), 4);
    }

    private static RiceHall threeTowns() {
        RiceHall x = Halls.withTowns(2);
        x.road(0, 1, 0, 30);
        x.road(0, 2, 0, 40);
        return x;
    }

    private static void fromWhenHeard() {
        Doc.says("Told in a TOWN they're in force in the hall from when they can be HEARD there");
        RiceHall x = threeTowns();
        Due.is("told in town 1", Due.rules(x, 1, "floor 7;"), 0);
        x.pass(29);
        Due.is("not yet", x.rule(0), 0);
        Due.is("not yet", x.rule(11), -1);
        x.pass(1);
        Due.is("from then on", x.rule(0), 7);
        Due.is("from then on", x.rule(11), 0);
        Due.is("told in the hall", Due.rules(x, 0, "floor 8;"), 1);
        Due.is("at once", x.rule(0), 8);
        RiceHall y = Halls.withTowns(1);
        y.road(0, 1, 5, 2000);
        Due.rules(y, 1, "floor 9;");
        Due.is("by flags at first light", y.heard(0), 365);
    }

    private static void upToEight() {
        Doc.says("(up to 8; such that can't be are refused):");
        RiceHall x = threeTowns();
        x.town();
        Due.is("refused", x.rules(3, 0), -4);
        for (int i = 0; i < 8; i++) {
            Due.is("rules", x.rules(i % 3, 0), i);
        }
        Due.is("the ninth", x.rules(0, 0), -3);
        Due.is("the ninth, that can't be heard", x.rules(3, 0), -3);
        Due.is("count(9)", x.count(9), 8);
    }

    private static void thatCannotBeHeard() {
        Doc.says("-4: none is wrong, but they can't be HEARD in the hall by minute 57,600.");
        RiceHall x = threeTowns();
        Halls.passTo(x, 57570);
        Due.is("heard at 57,600", Due.rules(x, 1, "floor 5;"), 0);
        Due.is("heard(0)", x.heard(0), 57600);
        Due.is("heard at 57,610", Due.rules(x, 2, "floor 6;"), -4);
        x.pass(1);
        Due.is("heard at 57,601", Due.rules(x, 1, "floor 7;"), -4);
        x.pass(29);
        Due.is("at the last minute", x.rule(0), 5);
        Due.is("in the hall", Due.rules(x, 0, "floor 8;"), 1);
        Due.is("rule(0)", x.rule(0), 8);
    }

    private static void heardLast() {
        Doc.says("at a minute those that were HEARD last by then");
        RiceHall x = threeTowns();
        Due.rules(x, 2, "floor 40;");
        Due.rules(x, 1, "floor 30;");
        Due.rules(x, 0, "floor 1;");
        int[][] wants = {{0, 2, 1}, {29, 2, 1}, {30, 1, 30}, {39, 1, 30}, {40, 0, 40}, {3000, 0, 40}};
        for (int[] want : wants) {
            Halls.passTo(x, want[0]);
            Due.is("in force at " + want[0], x.rule(11), want[1]);
            Due.is("floor at " + want[0], x.rule(0), want[2]);
        }
    }

    private static void toldLast() {
        Doc.says("of several those told last.");
        RiceHall x = threeTowns();
        Due.rules(x, 2, "floor 1;gap 1;");
        x.pass(10);
        Due.rules(x, 1, "floor 2;");
        x.pass(30);
        Due.is("both heard at 40", x.heard(0), x.heard(1));
        Due.is("told last", x.rule(11), 1);
        Due.is("floor", x.rule(0), 2);
        Due.is("nothing of the others", x.rule(6), 10);
        Due.rules(x, 0, "floor 3;");
        Due.rules(x, 0, "floor 4;");
        Due.is("told last in the hall", x.rule(11), 3);
        Due.is("floor", x.rule(0), 4);
    }

    private static void lastActThatHolds() {
        Doc.says("Of each word the last ACT whose COND holds when it's asked;");
        RiceHall x = Halls.ruled("floor 1;floor 2;if wind=1 floor 3;if wind=2 floor 4;ceiling 9;if wind>0 floor 5;"
                + "if wind=2 floor 6;if wind=1 spoil holder;if wind=2 spoil store;if wind=2 halt;if wind=3 gap 7;");
        int[][] wants = {{2, 0, 0, 10}, {5, 1, 0, 10}, {6, 0, 1, 10}, {5, 0, 0, 7}};
        for (int w = 0; w < 4; w++) {
            x.wind(w);
            Due.is("floor in the wind " + w, x.rule(0), wants[w][0]);
            Due.is("spoil in the wind " + w, x.rule(9), wants[w][1]);
            Due.is("halt in the wind " + w, x.rule(10), wants[w][2]);
            Due.is("gap in the wind " + w, x.rule(6), wants[w][3]);
            Due.is("ceiling in the wind " + w, x.rule(1), 9);
        }
    }

    private static void untold() {
        Doc.says("else FLOOR 0, CEILING 99,999, MARGIN 10, FUSE 600, BURN 10, GUST 1, GAP 10, GRACE 1,440, SETTLE 4, "
                + "SPOIL store, no HALT.");
        RiceHall x = new RiceHall();
        for (int what = 0; what < UNTOLD.length; what++) {
            Due.is("without rules: rule(" + what + ")", x.rule(what), UNTOLD[what]);
        }
        Due.is("rules", Due.rules(x, 0, "if day>0 halt;if day>0 spoil holder;if day>0 fuse 5;if day>0 floor 5;"), 0);
        for (int what = 0; what < UNTOLD.length; what++) {
            Due.is("none holds: rule(" + what + ")", x.rule(what), UNTOLD[what]);
        }
        Due.is("an empty text", x.rules(0, 0), 1);
        for (int what = 0; what < UNTOLD.length; what++) {
            Due.is("empty: rule(" + what + ")", x.rule(what), UNTOLD[what]);
        }
    }

    private static void factsOfTheClock() {
        Doc.says("(DAY, HOUR of NOW; WIND as it blows;");
        RiceHall x = Halls.ruled("if day>0 floor 1;if hour>9 ceiling 2;if wind>8 margin 3;");
        Due.is("wind 0", x.rule(2), 10);
        x.wind(8);
        Due.is("wind 8", x.rule(2), 10);
        x.wind(9);
        Due.is("wind 9", x.rule(2), 3);
        x.pass(9);
        Due.is("hour 9", x.rule(1), 99999);
        x.pass(1);
        Due.is("hour 10", x.rule(1), 2);
        x.pass(1429);
        Due.is("day 0", x.rule(0), 0);
        x.pass(1);
        Due.is("day 1", x.rule(0), 1);
        Due.is("hour 0", x.rule(1), 99999);
    }

    private static void factsOfTheMarket() {
        Doc.says("the latest CLOSE, 0 without; how many SESSIONS had a CLOSE; RICE, OUT of all stores.)");
        RiceHall x = Halls.ruled("burn 600;if close=0 floor 1;if close=70 floor 2;if sessions=0 gust 3;if sessions=1 "
                + "gust 4;if rice=0 gap 5;if rice=9 gap 6;if out=0 grace 7;if out=9 grace 8;", 1000, 1000);
        for (int s = 0; s < 4; s++) {
            x.store();
        }
        Due.is("without a close", x.rule(0), 1);
        x.light();
        x.pass(1);
        Due.is("a session without a close", x.rule(5), 3);
        Halls.close(x, 0, 1, 1, 70);
        Due.is("the latest close", x.rule(0), 2);
        Due.is("sessions with a close", x.rule(5), 4);
        Due.is("no rice", x.rule(6), 5);
        Due.is("nothing out", x.rule(7), 7);
        for (int s = 0; s < 4; s++) {
            x.come(s, s == 3 ? 3 : 2);
            x.issue(s, 0, s == 3 ? 3 : 2, 0);
        }
        Due.is("rice of all", x.rule(6), 6);
        Due.is("out of all", x.rule(7), 8);
        x.call(0, 0, 1);
        Due.is("served rice is none", x.rule(6), 10);
        Due.is("served paper isn't out", x.rule(7), 1440);
        Halls.close(x, 0, 1, 1, 71);
        Due.is("the latest close alone", x.rule(0), 0);
        Due.is("sessions with a close", x.rule(5), 1);
    }

    private static void holds(String condition, boolean want) {
        RiceHall x = new RiceHall();
        x.wind(3);
        Due.is("if " + condition, Due.rules(x, 0, "if " + condition + " halt;"), 0);
        Due.is("halt if " + condition, x.rule(10), want ? 1 : 0);
    }

    private static void orAndNot() {
        Doc.says("\"not\" FACT | \"(\" COND \")\"");
        String[] yes = {"wind=3", "wind>2", "wind<4", "not day<0", "day=0"};
        String[] no = {"wind=2", "wind>3", "wind<3", "not wind=3", "day<0"};
        for (int i = 0; i < yes.length; i++) {
            holds(yes[i], true);
            holds(no[i], false);
            for (int j = 0; j < yes.length; j++) {
                holds(yes[i] + " and " + yes[j], true);
                holds(yes[i] + " and " + no[j], false);
                holds(no[i] + " and " + yes[j], false);
                holds(no[i] + " or " + yes[j], true);
                holds(yes[i] + " or " + no[j], true);
                holds(no[i] + " or " + no[j], false);
                holds("not (" + no[i] + " or " + no[j] + ")", true);
                holds("not " + no[i] + " and " + yes[j], true);
                holds(yes[i] + " or " + yes[j] + " and " + no[i], true);
                holds("(" + yes[i] + " or " + yes[j] + ") and " + no[i], false);
                holds(no[i] + " and " + no[j] + " or " + yes[i], true);
                holds(no[i] + " and (" + no[j] + " or " + yes[i] + ")", false);
                holds(yes[i] + " and not " + no[j], true);
            }
        }
        // on each of eight levels both an "or" and an "and" wait for their other side
        holds(repeat("day=9 or wind=3 and(", 8) + "wind=3" + repeat(")", 8), true);
        holds(repeat("day=9 or wind=3 and(", 8) + "wind=4" + repeat(")", 8), false);
        holds(repeat("day=9 or wind=4 and(", 8) + "wind=3" + repeat(")", 8), false);
        holds(repeat("wind=3 or day=9 and(", 8) + "wind=4" + repeat(")", 8), true);
    }

    private static void theGreatestNumber() {
        Doc.says("NUMBER: one to five digits;");
        RiceHall x = Halls.of(0, 2);
        Due.rules(x, 0, "if rice<99999 floor 1;if rice=99999 floor 2;if rice>99999 floor 3;");
        for (int i = 0; i < 10; i++) {
            x.come(0, 9999);
        }
        x.come(0, 8);
        Due.is("99,998", x.rule(0), 1);
        x.come(0, 1);
        Due.is("99,999", x.rule(0), 2);
        x.come(1, 1);
        Due.is("100,000", x.rule(0), 3);
        RiceHall y = Halls.ruled("if out<00001 floor 1;if out>0 floor 2;");
        y.store();
        y.person(0);
        Due.is("none out", y.rule(0), 1);
        y.issue(0, 0, 1, 0);
        Due.is("one out", y.rule(0), 2);
    }

    private static void feedPromise() {
        Doc.says("Twenty bytes come behind those on the tape");
        RiceHall x = new RiceHall();
        for (int i = 1; i <= 25; i++) {
            Due.is("feed", x.feed(0, -1, Integer.MIN_VALUE, Integer.MAX_VALUE, 1), 20 * i);
            Due.is("count(12)", x.count(12), 20 * i);
        }
    }

    private static void feedOrder() {
        Doc.says("of each number the highest first: how many there are.");
        RiceHall x = new RiceHall();
        x.feed(0x666c6f6f, 0x72313b67, 0x6170323b, 0x67757374, 0x333b2020);
        Due.is("floor1;gap2;gust3;", x.rules(0, 20), 0);
        Due.is("rule(0)", x.rule(0), 1);
        Due.is("rule(6)", x.rule(6), 2);
        Due.is("rule(5)", x.rule(5), 3);
        // bytes from 128 on begin no token, whichever of the four it is
        int[] words = {0x80202020, 0x20802020, 0x20208020, 0x20202080, 0x202020ff};
        int[] places = {0, 1, 2, 3, 3};
        for (int i = 0; i < words.length; i++) {
            x.feed(words[i], 0x20202020, 0x20202020, 0x20202020, 0x20202020);
            Due.is("rules", x.rules(0, 20), -1);
            Due.is("fault()", x.fault(), places[i]);
        }
    }

    private static void feedFull() {
        Doc.says("NONE, doing nothing: there would be more than 500.");
        RiceHall x = new RiceHall();
        Due.feed(x, repeat(" ", 480) + "floor 1;       gap2;");
        Due.is("count(12)", x.count(12), 500);
        State.refused(x, "feed", () -> x.feed(0x21212121, 0, 0, 0, 0), -1);
        State.refused(x, "feed again", () -> x.feed(0, 0, 0, 0, 0), -1);
        Due.is("the text is as it was", x.rules(0, 500), 0);
        Due.is("rule(0)", x.rule(0), 1);
        Due.is("rule(6)", x.rule(6), 2);
        Due.is("there's room again", x.feed(0, 0, 0, 0, 0), 20);
    }

    private static void rulesTakeTheFirst() {
        Doc.says("The first n bytes of the tape (which is empty then)");
        RiceHall x = new RiceHall();
        Due.feed(x, "floor 1;floor 2;floor 3;");
        Due.is("16 bytes", x.rules(0, 16), 0);
        Due.is("rule(0)", x.rule(0), 2);
        Due.is("empty", x.count(12), 0);
        Due.feed(x, "floor 12345;");
        Due.is("a number cut short", x.rules(0, 8), -1);
        Due.is("fault()", x.fault(), 8);
        Due.is("empty behind a fault", x.count(12), 0);
        Due.feed(x, "floor 123456;");
        Due.is("five digits of six", x.rules(0, 11), -1);
        Due.is("fault()", x.fault(), 11);
        Due.feed(x, "halt;");
        Due.is("a word cut short", x.rules(0, 3), -1);
        Due.is("fault()", x.fault(), 0);
        Due.feed(x, "!");
        Due.is("nothing of it", x.rules(0, 0), 1);
        Due.is("empty", x.count(12), 0);
        Due.is("all of nothing", x.rules(0, 0), 2);
    }

    private static void rulesMinusTwo() {
        Doc.says("-2, doing nothing: no such TOWN, n is below 0 or more than there are;");
        RiceHall x = threeTowns();
        State.refused(x, "n 1 of 0", () -> x.rules(0, 1), -2);
        Due.feed(x, "halt;               halt;");
        State.refused(x, "town 3", () -> x.rules(3, 5), -2);
        State.refused(x, "town -1", () -> x.rules(-1, 5), -2);
        State.refused(x, "n -1", () -> x.rules(0, -1), -2);
        State.refused(x, "n least", () -> x.rules(0, Integer.MIN_VALUE), -2);
        State.refused(x, "n 41 of 40", () -> x.rules(0, 41), -2);
        State.refused(x, "n greatest", () -> x.rules(0, Integer.MAX_VALUE), -2);
        Due.is("all there are", x.rules(0, 40), 0);
        Due.is("rule(10)", x.rule(10), 1);
    }

    private static void rulesMinusThree() {
        Doc.says("-3, doing nothing: there are 8;");
        RiceHall x = threeTowns();
        for (int i = 0; i < 8; i++) {
            x.rules(0, 0);
        }
        Due.feed(x, "bad");
        State.refused(x, "a right one", () -> x.rules(0, 0), -3);
        State.refused(x, "with a fault", () -> x.rules(0, 3), -3);
        State.refused(x, "n more than there are", () -> x.rules(0, 21), -2);
        State.refused(x, "no such town", () -> x.rules(9, 0), -2);
        Due.is("the tape is as it was", x.count(12), 20);
    }

    private static void rulesMinusFour() {
        Doc.says("-4: none is wrong, but they can't be HEARD");
        RiceHall x = Halls.withTowns(1);
        Due.is("a fault goes ahead", Due.rules(x, 1, "halt"), -1);
        Due.is("no road", Due.rules(x, 1, "halt;"), -4);
        Due.is("the tape is empty", x.count(12), 0);
        Due.is("count(9)", x.count(9), 0);
        Due.is("rule(10)", x.rule(10), 0);
        x.road(0, 1, 0, 1);
        x.pass(1);
        Due.is("nothing of it is heard later", x.rule(11), -1);
        Due.is("the first that can be", Due.rules(x, 1, "halt;"), 0);
    }

    private static void faultPromise() {
        Doc.says("The FAULT's place of the latest rules() that was a number, NONE or -4; NONE: it had none.");
        RiceHall x = Halls.withTowns(1);
        Due.is("none yet", x.fault(), -1);
        Due.rules(x, 0, "halt !");
        Due.is("of a fault", x.fault(), 5);
        Due.is("-2", x.rules(5, 0), -2);
        Due.is("it stays", x.fault(), 5);
        Due.is("-4", x.rules(1, 0), -4);
        Due.is("none", x.fault(), -1);
        Due.rules(x, 1, "!");
        Due.is("of a fault at the first byte", x.fault(), 0);
        Due.is("a number", x.rules(0, 0), 0);
        Due.is("none", x.fault(), -1);
        Due.rules(x, 0, "floor");
        for (int i = 1; i < 8; i++) {
            Due.is("fault()", x.fault(), i == 1 ? 5 : -1);
            x.rules(0, 0);
        }
        x.feed(0, 0, 0, 0, 0);
        Due.is("-3", x.rules(0, 20), -3);
        Due.is("it stays", x.fault(), -1);
    }

    private static void rulePromise() {
        Doc.says("NOW: 0 FLOOR, 1 CEILING, 2 MARGIN, 3 FUSE, 4 BURN, 5 GUST, 6 GAP, 7 GRACE, 8 SETTLE, 9 SPOIL (1 "
                + "holder), 10 HALT (1), 11 which RULES are in force (NONE). NONE for others.");
        RiceHall x = new RiceHall();
        Due.is("none in force", x.rule(11), -1);
        Due.rules(x, 0, "floor 21;ceiling 22;margin 23;fuse 24;burn 25;gust 26;gap 27;grace 28;settle 29;spoil holder;"
                + "halt;");
        for (int what = 0; what < 9; what++) {
            Due.is("rule(" + what + ")", x.rule(what), 21 + what);
        }
        Due.is("rule(9)", x.rule(9), 1);
        Due.is("rule(10)", x.rule(10), 1);
        Due.is("rule(11)", x.rule(11), 0);
        Due.is("rule(12)", x.rule(12), -1);
        Due.is("rule(-1)", x.rule(-1), -1);
        Due.is("rule(least)", x.rule(Integer.MIN_VALUE), -1);
        Due.is("rule(greatest)", x.rule(Integer.MAX_VALUE), -1);
    }

    private static void heardPromise() {
        Doc.says("From when RULES are in force. NONE: none such.");
        RiceHall x = threeTowns();
        Due.is("heard(0)", x.heard(0), -1);
        x.pass(5);
        x.rules(1, 0);
        x.rules(0, 0);
        Due.is("heard(0)", x.heard(0), 35);
        Due.is("heard(1)", x.heard(1), 5);
        Due.is("heard(2)", x.heard(2), -1);
        Due.is("heard(-1)", x.heard(-1), -1);
        x.road(0, 1, 0, 1);
        Due.is("roads told later change nothing", x.heard(0), 35);
    }

    private static void windPromise() {
        Doc.says("The WIND (0 to 9): true; false: not as told.");
        RiceHall x = new RiceHall();
        Due.is("wind(9)", x.wind(9), true);
        Due.is("count(7)", x.count(7), 9);
        State.refused(x, "wind(10)", () -> x.wind(10) ? 1 : 0, 0);
        State.refused(x, "wind(-1)", () -> x.wind(-1) ? 1 : 0, 0);
        Due.is("wind(0)", x.wind(0), true);
        Due.is("count(7)", x.count(7), 0);
    }
}
