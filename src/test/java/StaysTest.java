import java.util.ArrayList;
import java.util.List;

/**
 * Calls that only ask change nothing, whether they answer or throw; and whoever or whatever isn't there is
 * refused by every call that names one ('as everywhere'), which changes nothing either.
 */
public final class StaysTest {
    private static final Due due = new Due();
    private static final int[] OUTSIDE = {3, 8, -1, Integer.MIN_VALUE, Integer.MAX_VALUE};

    private static final List<String> names = new ArrayList<>();
    private static final List<Twins.Use> asked = new ArrayList<>();

    /** A call of one house, or of one person, all else being right. */
    interface OfOne {
        long of(HornHouses x, int one);
    }

    public static void main(String[] args) {
        ask();
        askedChangesNothing(Twins::rich, "rich");
        askedChangesNothing(Twins::taped, "taped");
        askedChangesNothing(Twins::ruined, "ruined");
        noSuchHouse();
        noSuchPerson();
        wrongNumbers();
        due.end("StaysTest");
    }

    private static void add(String name, Twins.Use call) {
        names.add(name);
        asked.add(call);
    }

    private static void ask() {
        add("fault", x -> x.fault());
        for (int w = 0; w < 16; w++) {
            int what = w;
            add("count " + w, x -> x.count(what));
        }
        for (int w = 0; w < 8; w++) {
            int what = w;
            add("house " + w, x -> x.house(1, what));
        }
        for (int w = 0; w < 5; w++) {
            int what = w;
            add("person " + w, x -> x.person(1, what));
        }
        for (int w = 0; w < 3; w++) {
            int what = w;
            add("then " + w, x -> x.then(1, 40, what));
            add("large " + w, x -> x.large(what));
            add("years " + w, x -> x.years(7, 40, what));
        }
        for (int w = 0; w < 2; w++) {
            int what = w;
            add("last " + w, x -> x.last(what));
            add("match " + w, x -> x.match(what));
            add("next " + w, x -> x.next(what));
            add("game " + w, x -> x.game(0, 1, 0, what));
        }
        askOfOne();
        askOfTwo();
        askOfDays();
    }

    private static void askOfOne() {
        for (int i = 0; i < 3; i++) {
            int one = i;
            add("burst " + i, x -> x.burst(one));
            add("heirs " + i, x -> x.heirs(one));
            add("wriggles " + i, x -> x.wriggles(one));
            add("goes " + i, x -> x.goes(one));
            add("matched " + i, x -> x.matched(one));
            add("trade " + i, x -> x.trade(one));
            add("free " + i, x -> x.free(one));
            add("larger " + i, x -> x.larger(one));
            add("ringed " + i, x -> x.ringed(one));
            add("worn " + i, x -> x.worn(one, 40));
            add("byDamp " + i, x -> x.byDamp(one, 5, 5));
        }
    }

    private static void askOfTwo() {
        for (int i = 0; i < 9; i++) {
            int person = i / 3;
            int house = i % 3;
            String pair = person + " " + house;
            add("eases " + pair, x -> x.eases(person, house));
            add("toStuff " + pair, x -> x.toStuff(person, house));
            add("toWait " + pair, x -> x.toWait(person, house));
            add("toGrow " + pair, x -> x.toGrow(person, house));
            add("eased " + pair, x -> x.eased(person, house, 40));
            add("endures " + pair, x -> x.endures(person, house));
        }
    }

    private static void askOfDays() {
        for (int d = 1; d <= 40; d += 39) {
            int days = d;
            add("barefoot " + d, x -> x.barefoot(days));
            add("paid " + d, x -> x.paid(days));
            add("wornest " + d, x -> x.wornest(days));
            add("dampest " + d, x -> x.dampest(days));
            add("kept " + d, x -> x.kept(days));
            add("sorest " + d, x -> x.sorest(days));
        }
        add("round", x -> x.round(30));
        add("wide", x -> x.wide(60));
    }

    /** Each asked twice answers alike, behind all the others, and all of them leave the object as it was. */
    private static void askedChangesNothing(Twins.Maker maker, String name) {
        HornHouses x = maker.make();
        long[] first = new long[asked.size()];
        for (int i = 0; i < first.length; i++) {
            first[i] = asked.get(i).on(x);
        }
        for (int i = first.length - 1; i >= 0; i--) {
            due.is(name + ": " + names.get(i) + " again", asked.get(i).on(x), first[i]);
        }
        for (int i = 0; i < first.length; i++) {
            Twins.asks(due, name + ": " + names.get(i), maker, asked.get(i));
        }
    }

    private static void refused(String name, OfOne call) {
        HornHouses empty = new HornHouses();
        due.is(name + " where none is", Due.thrown(() -> call.of(empty, 0)), 1);
        for (int one : OUTSIDE) {
            Twins.leaves(due, name + " " + one, Twins::rich, x -> Due.thrown(() -> call.of(x, one)), 1);
        }
        // The last of eight is there, the ninth isn't.
        HornHouses full = full();
        due.is(name + " 8", Due.thrown(() -> call.of(full, 8)), 1);
        due.is(name + " 7", Due.thrown(() -> call.of(full, 7)), 0);
    }

    private static HornHouses full() {
        return Due.town("house 9 0 0;".repeat(8) + "person 9 0;".repeat(8));
    }

    private static void noSuchHouse() {
        due.says(6, "no such HOUSE (as everywhere)");
        refused("house", (x, h) -> x.house(h, 0));
        refused("eases", (x, h) -> x.eases(0, h));
        refused("putIn", (x, h) -> x.putIn(0, h));
        refused("stuff", (x, h) -> x.stuff(h, 1));
        refused("worn", (x, h) -> x.worn(h, 1));
        refused("burst", (x, h) -> x.burst(h));
        refused("toStuff", (x, h) -> x.toStuff(0, h));
        refused("toWait", (x, h) -> x.toWait(0, h));
        refused("see", (x, h) -> x.see(h, 0, 0));
        refused("byDamp", (x, h) -> x.byDamp(h, 1, 1));
        refused("game", (x, h) -> x.game(0, 1, h, 0));
        refused("heirs", (x, h) -> x.heirs(h));
        refused("toGrow", (x, h) -> x.toGrow(0, h));
        refused("eased", (x, h) -> x.eased(0, h, 1));
        refused("endures", (x, h) -> x.endures(0, h));
    }

    private static void noSuchPerson() {
        due.says(7, "no such PERSON (as everywhere)");
        refused("person", (x, p) -> x.person(p, 0));
        refused("eases", (x, p) -> x.eases(p, 0));
        refused("putIn", (x, p) -> x.putIn(p, 0));
        refused("out", (x, p) -> x.out(p));
        refused("change", (x, p) -> x.change(p, 0) ? 1 : 0);
        refused("change with", (x, p) -> x.change(0, p) ? 1 : 0);
        refused("then", (x, p) -> x.then(p, 1, 0));
        refused("wriggles", (x, p) -> x.wriggles(p));
        refused("goes", (x, p) -> x.goes(p));
        refused("matched", (x, p) -> x.matched(p));
        refused("trade", (x, p) -> x.trade(p));
        refused("toStuff", (x, p) -> x.toStuff(p, 0));
        refused("toWait", (x, p) -> x.toWait(p, 0));
        refused("game", (x, p) -> x.game(p, 0, 0, 0));
        refused("game with", (x, p) -> x.game(0, p, 0, 0));
        refused("toGrow", (x, p) -> x.toGrow(p, 0));
        refused("eased", (x, p) -> x.eased(p, 0, 1));
        refused("free", (x, p) -> x.free(p));
        refused("larger", (x, p) -> x.larger(p));
        refused("endures", (x, p) -> x.endures(p, 0));
        refused("ringed", (x, p) -> x.ringed(p));
    }

    private static void throwsBad(String name, int[] numbers, OfOne call) {
        for (int number : numbers) {
            Twins.leaves(due, name + " " + number, Twins::rich, x -> Due.thrown(() -> call.of(x, number)), 2);
        }
    }

    private static void throwsNone(String name, int[] numbers, OfOne call) {
        for (int number : numbers) {
            Twins.leaves(due, name + " " + number, Twins::rich, x -> Due.thrown(() -> call.of(x, number)), 1);
        }
    }

    private static void wrongNumbers() {
        due.says(20, "IllegalArgumentException: not 0 to 40");
        int[] notTo40 = {-1, 41};
        throwsBad("then", notTo40, (x, n) -> x.then(0, n, 0));
        throwsBad("worn", notTo40, (x, n) -> x.worn(0, n));
        throwsBad("barefoot", notTo40, (x, n) -> x.barefoot(n));
        throwsBad("paid", notTo40, (x, n) -> x.paid(n));
        throwsBad("wornest", notTo40, (x, n) -> x.wornest(n));
        throwsBad("kept", notTo40, (x, n) -> x.kept(n));
        throwsBad("sorest", notTo40, (x, n) -> x.sorest(n));
        throwsBad("years", notTo40, (x, n) -> x.years(1, n, 0));
        due.says(40, "IllegalArgumentException: not 1 to 40");
        int[] notFrom1 = {0, 41};
        throwsBad("dampest", notFrom1, (x, n) -> x.dampest(n));
        throwsBad("eased", notFrom1, (x, n) -> x.eased(0, 0, n));
        due.says(28, "IllegalArgumentException: not 0 to 30");
        throwsBad("round", new int[] {-1, 31}, (x, n) -> x.round(n));
        due.says(46, "IllegalArgumentException: not 1 to 60");
        throwsBad("wide", new int[] {0, 61}, (x, n) -> x.wide(n));
        due.says(33, "IllegalArgumentException (behind NoSuchElementException): days, tenths");
        throwsBad("byDamp's days", new int[] {0, 6}, (x, n) -> x.byDamp(0, n, 5));
        throwsBad("byDamp's tenths", new int[] {-1, 11}, (x, n) -> x.byDamp(0, 5, n));
        due.says(34, "IllegalArgumentException (behind that): both are one");
        throwsBad("game", new int[] {0, 1, 2}, (x, n) -> x.game(n, n, 0, 0));
        due.says(5, "NoSuchElementException: another what");
        throwsNone("count", new int[] {-1, 16}, (x, n) -> x.count(n));
        throwsNone("house", new int[] {-1, 8}, (x, n) -> x.house(0, n));
        throwsNone("person", new int[] {-1, 5}, (x, n) -> x.person(0, n));
        throwsNone("then", new int[] {-1, 3}, (x, n) -> x.then(0, 0, n));
        throwsNone("last", new int[] {-1, 2}, (x, n) -> x.last(n));
        throwsNone("match", new int[] {-1, 2}, (x, n) -> x.match(n));
        throwsNone("large", new int[] {-1, 3}, (x, n) -> x.large(n));
        throwsNone("next", new int[] {-1, 2}, (x, n) -> x.next(n));
        throwsNone("game", new int[] {-1, 2}, (x, n) -> x.game(0, 1, 0, n));
        throwsNone("years", new int[] {-1, 3}, (x, n) -> x.years(1, 0, n));
    }
}
