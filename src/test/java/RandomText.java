import java.util.Random;

/** Texts of rules as they may be told: most of them right, some with a fault put in. */
final class RandomText {
    private static final String[] NUMBERED = {"floor", "ceiling", "margin", "fuse", "burn", "gust", "gap", "grace",
        "settle"};
    private static final String[] NAMES = {"day", "hour", "wind", "close", "sessions", "rice", "out"};
    private static final String[] ODD = {"if", "or", "and", "not", "(", ")", ";", "<", "=", "halt", "floor", "day",
        "floors", "123456", "00000", "99999", "0", "!", "A", "\t", "\u00e9", "spoil", "store", "holder", "settle"};

    private RandomText() {
    }

    static String of(Random r) {
        StringBuilder text = new StringBuilder();
        int statements = r.nextInt(15) == 0 ? 20 + r.nextInt(8) : r.nextInt(6);
        for (int s = 0; s < statements; s++) {
            StringBuilder statement = new StringBuilder();
            if (statements < 20 && r.nextInt(2) == 0) {
                statement.append("if").append(blank(r, true));
                condition(r, statement, r.nextInt(8) == 0 ? 7 + r.nextInt(3) : r.nextInt(3));
            }
            act(r, statement);
            if (text.length() + statement.length() < 490) {
                text.append(statement).append(blank(r, false));
            }
        }
        if (r.nextInt(3) == 0) {
            spoil(r, text);
        }
        return text.toString();
    }

    private static String blank(Random r, boolean must) {
        return must || r.nextInt(5) == 0 ? r.nextInt(4) == 0 ? "\n" : " " : "";
    }

    private static void act(Random r, StringBuilder text) {
        int luck = r.nextInt(24);
        if (luck == 0) {
            text.append("halt");
        } else if (luck < 3) {
            text.append("spoil").append(blank(r, true)).append(r.nextBoolean() ? "store" : "holder");
        } else {
            String word = NUMBERED[r.nextInt(NUMBERED.length)];
            text.append(word).append(blank(r, false)).append(number(r, word));
        }
        text.append(blank(r, false)).append(";");
    }

    private static int number(Random r, String word) {
        int low = r.nextInt(20) == 0 ? 0 : 1;
        switch (word) {
            case "floor":
                return r.nextInt(8);
            case "ceiling":
                return 20 + r.nextInt(r.nextBoolean() ? 20 : 90000);
            case "margin":
                return r.nextInt(r.nextInt(3) == 0 ? 100000 : 60);
            case "fuse":
                return low + r.nextInt(r.nextInt(8) == 0 ? 30000 : 300);
            case "burn":
                return low + r.nextInt(r.nextInt(3) == 0 ? 300 : 20);
            case "settle":
                return low + r.nextInt(7);
            case "grace":
                return r.nextInt(r.nextBoolean() ? 3 : 100);
            default:
                return r.nextInt(r.nextBoolean() ? 10 : 2000);
        }
    }

    private static void condition(Random r, StringBuilder text, int deep) {
        fact(r, text, deep);
        while (r.nextInt(3) == 0) {
            text.append(r.nextBoolean() ? "and" : "or").append(blank(r, true));
            fact(r, text, deep - 1);
        }
    }

    private static void fact(Random r, StringBuilder text, int deep) {
        if (deep > 0 && r.nextInt(deep > 6 ? 40 : 3) > 0) {
            if (r.nextBoolean()) {
                text.append("not").append(blank(r, true));
                fact(r, text, deep - 1);
            } else {
                text.append("(").append(blank(r, false));
                condition(r, text, deep - 1);
                text.append(")").append(blank(r, false));
            }
            return;
        }
        int name = r.nextInt(NAMES.length);
        int[] bounds = {4, 1440, 4, 40, 5, 100, 100};
        text.append(NAMES[name]).append(blank(r, false)).append("<>=".charAt(r.nextInt(3))).append(blank(r, false));
        text.append(r.nextInt(bounds[name])).append(blank(r, false));
    }

    private static void spoil(Random r, StringBuilder text) {
        int at = r.nextInt(text.length() + 1);
        int luck = r.nextInt(4);
        if (luck == 0) {
            text.setLength(at);
        } else if (luck == 1 && at < text.length()) {
            text.deleteCharAt(at);
        } else if (luck == 2) {
            text.insert(at, ODD[r.nextInt(ODD.length)]);
        } else {
            text.insert(at, " " + ODD[r.nextInt(ODD.length)] + " ");
        }
    }
}
