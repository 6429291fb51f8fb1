import java.util.LinkedHashMap;
import java.util.Map;

/**
 * Two objects with the same calls behind them, of which one gets a call more: what both answer from
 * then on tells whether that call changed anything.
 */
final class Twins {
    static final int NONE = HornHouses.NONE;

    private Twins() {
    }

    /** A call on an object; Due.thrown makes a number of what it throws. */
    interface Use {
        long on(HornHouses x);
    }

    /** What makes the two alike. */
    interface Maker {
        HornHouses make();
    }

    /**
     * Day 2, damp let in. 0 (17) lodges, 1 (16) is in house 1 (10), 2 (25) lodges; house 0 is stuffed to
     * 17. Four acts, two things seen, an image, one refused call of each kind, an empty tape.
     */
    static HornHouses rich() {
        HornHouses x = Due.town("house 20 2 0;house 10 1 5;house 30 0 9;"
            + "person 15 1 in 0;person 12 2 in 1;person 25 0;damp 3 0;");
        Due.tell(x, "!");
        x.days(0);
        x.see(0, 0, 100);
        x.days(2);
        x.see(1, 1, 12);
        x.image();
        x.out(0);
        x.stuff(0, 3);
        x.letIn();
        x.see(0, 2, 0);
        return x;
    }

    /** As rich, with twenty bytes on the tape. */
    static HornHouses taped() {
        HornHouses x = rich();
        Due.feed(x, "house 3 2 1;person 4");
        return x;
    }

    /** As its image is. */
    static HornHouses restored() {
        HornHouses x = rich();
        x.restore();
        return x;
    }

    /** A house that is burst, one that is stuffed, one in which somebody is; no image, nothing seen. */
    static HornHouses ruined() {
        HornHouses x = Due.town("house 5 0 0;house 9 0 4;house 9 0 8;person 9 1 in 0;person 6 0 in 1;"
            + "person 30 9;eases 3;bursts tight-3;");
        x.days(1);
        x.stuff(2, 4);
        return x;
    }

    /** The call answers so and changes nothing, whatever state is asked. */
    static void leaves(Due due, String what, Use call, long want) {
        leaves(due, what, Twins::rich, call, want);
        leaves(due, what, Twins::taped, call, want);
    }

    static void leaves(Due due, String what, Maker maker, Use call, long want) {
        HornHouses one = maker.make();
        HornHouses other = maker.make();
        due.is(what, call.on(other), want);
        hold(due, what, told(one), told(other), "");
    }

    /** The call changes nothing; what it answers is of no matter here. */
    static void asks(Due due, String what, Maker maker, Use call) {
        HornHouses one = maker.make();
        HornHouses other = maker.make();
        call.on(other);
        hold(due, what, told(one), told(other), "");
    }

    /** The call answers so and changes nothing but that this count of refused calls is one more. */
    static void changes(Due due, String what, int status, Use call, long want) {
        changes(due, what, Twins::rich, status, call, want);
    }

    static void changes(Due due, String what, Maker maker, int status, Use call, long want) {
        HornHouses one = maker.make();
        HornHouses other = maker.make();
        due.is(what, call.on(other), want);
        due.is(what + ": count " + status, other.count(status), one.count(status) + 1);
        hold(due, what, told(one), told(other), "count " + status);
    }

    private static void hold(Due due, String what, Map<String, Long> one, Map<String, Long> other,
            String but) {
        due.is(what + ": as many answers", other.size(), one.size());
        for (Map.Entry<String, Long> row : one.entrySet()) {
            boolean refused = !but.isEmpty() && row.getKey().endsWith(but);
            // A text with a fault moves its place too, which is held on its own.
            boolean moved = but.equals("count 13") && row.getKey().equals("fault");
            Long got = other.get(row.getKey());
            if (!refused && !moved) {
                due.is(what + " then " + row.getKey(), got == null ? Long.MIN_VALUE : got, row.getValue());
            }
        }
    }

    /** All that an object has to tell; it is used up by that. */
    static Map<String, Long> told(HornHouses x) {
        Map<String, Long> rows = new LinkedHashMap<>();
        rows.put("fault", (long) x.fault());
        state(rows, "", x);
        sights(rows, "", x);
        undone(rows, "", x);
        rows.put("restore", x.restore() ? 1L : 0L);
        state(rows, "restored ", x);
        sights(rows, "restored ", x);
        undone(rows, "restored ", x);
        int taped = x.count(12);
        rows.put("town", (long) x.town(taped));
        rows.put("town's fault", (long) x.fault());
        rows.put("town's houses", (long) x.count(0));
        return rows;
    }

    private static void undone(Map<String, Long> rows, String when, HornHouses x) {
        for (int i = 0; i < 5; i++) {
            int left = x.undo();
            rows.put(when + "undo " + i, (long) left);
            if (left == NONE) {
                break;
            }
            state(rows, when + "undone " + i + " ", x);
        }
    }

    private static void state(Map<String, Long> rows, String when, HornHouses x) {
        for (int what = 0; what < 16; what++) {
            rows.put(when + "count " + what, (long) x.count(what));
        }
        for (int h = 0; h < x.count(0); h++) {
            for (int what : new int[] {0, 3, 4, 5}) {
                rows.put(when + "house " + h + " " + what, (long) x.house(h, what));
            }
        }
        for (int p = 0; p < x.count(1); p++) {
            for (int what : new int[] {0, 2, 3}) {
                rows.put(when + "person " + p + " " + what, (long) x.person(p, what));
            }
        }
    }

    private static void sights(Map<String, Long> rows, String when, HornHouses x) {
        for (int what = 0; what < 3; what++) {
            rows.put(when + "large " + what, (long) x.large(what));
        }
        rows.put(when + "next 0", (long) x.next(0));
        rows.put(when + "next 1", (long) x.next(1));
    }
}
