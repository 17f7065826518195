import java.util.LinkedHashMap;
import java.util.Map;
import java.util.function.LongSupplier;

/** All that can be seen of an object without changing it, to be held against what is seen behind a refused call. */
final class State {
    private State() {
    }

    static Map<String, Long> of(RiceHall x) {
        Map<String, Long> seen = new LinkedHashMap<>();
        for (int what = 0; what < 14; what++) {
            seen.put("count(" + what + ")", (long) x.count(what));
            seen.put("rule(" + what + ")", (long) x.rule(what));
            seen.put("heard(" + what + ")", (long) x.heard(what));
            seen.put("best(" + what + ")", (long) x.best(what));
            seen.put("sum(" + what + ")", x.sum(what));
            seen.put("least(" + what + ")", (long) x.least(what));
            seen.put("judged(0, " + what + ")", (long) x.judged(0, what));
        }
        seen.put("fault()", (long) x.fault());
        addLand(x, seen);
        addPersons(x, seen);
        addSessions(x, seen);
        return seen;
    }

    private static void addLand(RiceHall x, Map<String, Long> seen) {
        for (int a = 0; a < x.count(1); a++) {
            for (int b = 0; b < x.count(1); b++) {
                for (int minute = 0; minute <= 1440; minute += 120) {
                    seen.put("news(" + a + ", " + b + ", " + minute + ")", (long) x.news(a, b, minute));
                }
            }
        }
    }

    private static void addPersons(RiceHall x, Map<String, Long> seen) {
        for (int p = -1; p < x.count(2); p++) {
            seen.put("coins(" + p + ")", x.coins(p));
            for (int what = 0; what < 14; what++) {
                seen.put("told(" + p + ", " + what + ")", (long) x.told(p, what));
                seen.put("fails(" + p + ", " + what + ")", (long) x.fails(p, what));
            }
        }
        for (int s = 0; s < x.count(3); s++) {
            seen.put("over(" + s + ")", (long) x.over(s, x.count(0)));
            for (int what = 0; what < 8; what++) {
                seen.put("storeOf(" + s + ", " + what + ")", (long) x.storeOf(s, what));
            }
        }
    }

    private static void addSessions(RiceHall x, Map<String, Long> seen) {
        for (int s = 0; s < x.count(4); s++) {
            seen.put("other(" + s + ")", (long) x.other(s, 0, 99999));
            for (int what = 0; what < 8; what++) {
                seen.put("session(" + s + ", " + what + ")", (long) x.session(s, what));
                for (int b = 0; b < x.session(s, 4); b++) {
                    seen.put("bargain(" + s + ", " + b + ", " + what + ")", (long) x.bargain(s, b, what));
                }
            }
        }
    }

    /** The call is refused with this answer, and nothing that can be seen is another behind it. */
    static void refused(RiceHall x, String call, LongSupplier made, long want) {
        Map<String, Long> before = of(x);
        Due.is(call, made.getAsLong(), want);
        same(call, before, of(x));
    }

    private static void same(String call, Map<String, Long> before, Map<String, Long> behind) {
        Due.is("behind " + call + ": how much can be seen", behind.size(), before.size());
        for (Map.Entry<String, Long> seen : before.entrySet()) {
            Long now = behind.get(seen.getKey());
            Due.is("behind " + call + ": " + seen.getKey(), now == null ? Long.MIN_VALUE : now, seen.getValue());
        }
    }
}
