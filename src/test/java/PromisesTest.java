/** Promises 1 and 5 to 50 by worked examples: ordinary inputs, the document's edges, wrong inputs. */
public final class PromisesTest {
    private static final Due due = new Due();
    private static final int NONE = HornHouses.NONE;

    /** Of default rules; damp 3 on even days, 0 on odd ones; person 2 lodges. */
    private static final String STREET = "house 20 2 0;house 10 1 5;house 30 0 9;"
        + "person 15 1 in 0;person 12 2 in 1;person 25 0;damp 3 0;";

    public static void main(String[] args) {
        newObject();
        count();
        house();
        person();
        eases();
        days();
        dayRules();
        putIn();
        out();
        stuff();
        change();
        letIn();
        undo();
        then();
        worn();
        burst();
        wriggles();
        barefoot();
        last();
        goes();
        match();
        matched();
        trade();
        toStuff();
        toWait();
        round();
        see();
        forget();
        large();
        next();
        byDamp();
        game();
        years();
        heirs();
        toGrow();
        paid();
        wornest();
        dampest();
        kept();
        sorest();
        eased();
        free();
        larger();
        wide();
        endures();
        ringed();
        imageAndRestore();
        due.end("PromisesTest");
    }

    private static HornHouses street() {
        return Due.town(STREET);
    }

    // 1
    private static void newObject() {
        HornHouses x = new HornHouses();
        due.is("NONE", HornHouses.NONE, -1);
        int[] want = {0, 0, 0, 3, 0, 0, 0, 0, -1, 0, 0, 0, 0, 0, 0, 0};
        for (int what = 0; what < want.length; what++) {
            due.is("new: count " + what, x.count(what), want[what]);
        }
        due.is("new: fault", x.fault(), NONE);
        due.none("new: house", () -> x.house(0, 0));
        due.none("new: person", () -> x.person(0, 0));
        due.is("new: undo", x.undo(), NONE);
        due.is("new: restore", x.restore(), false);
        due.is("new: days", x.days(20), 20);
        due.is("new: damp", x.letIn(), 3);
    }

    // 5
    private static void count() {
        HornHouses x = street();
        due.is("houses", x.count(0), 3);
        due.is("people", x.count(1), 3);
        due.is("day", x.count(2), 0);
        due.is("damp", x.count(3), 3);
        due.is("burst", x.count(4), 0);
        due.is("in use, bits", x.count(5), 3);
        due.is("lodge, bits", x.count(6), 4);
        due.is("blisters", x.count(7), 0);
        due.is("tightest", x.count(8), 1);
        due.is("needed", x.count(9), 7);
        due.is("acts", x.count(10), 0);
        x.days(6);
        due.is("day", x.count(2), 6);
        due.is("burst, bits", x.count(4), 2);
        due.is("in use after", x.count(5), 1);
        due.is("lodge after", x.count(6), 6);
        due.is("blisters of all: 2 + 4 + 6 + 8 + 10 + 12", x.count(7), 42);
        due.is("tightest: 21 in 20", x.count(8), 0);
        due.is("acts", x.count(10), 1);
        due.none("count below", () -> x.count(-1));
        due.none("count above", () -> x.count(16));
        HornHouses y = Due.town("house 9 0 0;house 9 0 0;person 12 0 in 1;person 12 0 in 0;");
        due.is("tightest of like ones", y.count(8), 0);
        due.is("nobody tight", Due.town("house 9 0 0;person 9 0 in 0;person 20 0;").count(8), NONE);
        due.is("none needed: one fits in both", Due.town("house 9 0 0;house 9 0 0;person 9 0;").count(9), 0);
        due.is("needed: one of two only fits one", Due.town("house 9 0 0;house 40 0 0;house 40 0 1;"
            + "person 9 0;person 40 0;person 40 0;").count(9), 7);
        due.is("what nobody can use isn't needed", Due.town("house 1 0 0;house 9 0 0;person 9 0;").count(9), 2);
        HornHouses z = Due.town("house 9 0 0;house 9 0 0;person 30 0 in 0;bursts tight;eases 30;");
        due.is("needed: either will do", z.count(9), 0);
        z.days(1);
        due.is("a burst one is not needed, the last one is", z.count(9), 2);
    }

    // 6
    private static void house() {
        HornHouses x = street();
        int[] want = {20, 2, 0, 0, 0, 0, 5, 1};
        for (int what = 0; what < 8; what++) {
            due.is("house 0: " + what, x.house(0, what), want[what]);
        }
        due.is("nobody in it", x.house(2, 4), NONE);
        due.is("no room without anybody", x.house(2, 6), 0);
        due.is("no room for a larger one", x.house(1, 6), 0);
        due.is("next door of 1", x.house(1, 7), 2);
        due.is("next door of 2", x.house(2, 7), 1);
        x.days(6);
        due.is("worn", x.house(1, 3), 42);
        due.is("burst", x.house(1, 5), 1);
        due.is("nobody in it then", x.house(1, 4), NONE);
        due.none("house below", () -> x.house(-1, 0));
        due.none("house above", () -> x.house(3, 0));
        due.none("what below", () -> x.house(0, -1));
        due.none("what above", () -> x.house(0, 8));
        due.is("no next door", Due.town("house 1 1 1;").house(0, 7), NONE);
        HornHouses y = Due.town("house 1 1 10;house 1 1 5;house 1 1 15;house 1 1 10;house 1 1 30;");
        due.is("next door at one place", y.house(0, 7), 3);
        due.is("of like ones the least", y.house(1, 7), 0);
        due.is("the nearest of far ones", y.house(4, 7), 2);
        due.is("the least of like far ones",
            Due.town("house 1 1 10;house 1 1 20;house 1 1 0;").house(0, 7), 1);
        due.is("across the street", Due.town("house 1 1 0;house 1 1 30;").house(0, 7), 1);
    }

    // 7
    private static void person() {
        HornHouses x = street();
        int[] want = {12, 2, 1, 0, 2};
        for (int what = 0; what < 5; what++) {
            due.is("person 1: " + what, x.person(1, what), want[what]);
        }
        due.is("one lodges", x.person(2, 2), NONE);
        due.is("not tight then", x.person(2, 4), 0);
        x.days(2);
        due.is("size", x.person(1, 0), 16);
        due.is("blisters 2 + 4", x.person(1, 3), 6);
        due.is("tight", x.person(1, 4), 6);
        due.none("person below", () -> x.person(-1, 0));
        due.none("person above", () -> x.person(3, 0));
        due.none("what below", () -> x.person(0, -1));
        due.none("what above", () -> x.person(0, 5));
    }

    // 8 (TextTest has the rules)
    private static void eases() {
        HornHouses x = street();
        due.is("give 2 and damp 3", x.eases(2, 0), 5);
        due.is("in a house where somebody is", x.eases(0, 1), 4);
        x.days(5);
        due.is("day 5: give 1, damp 0, worn 30 by 10", x.eases(0, 1), 4);
        x.letIn();
        due.is("damp let in", x.eases(0, 1), 13);
        due.none("person", () -> x.eases(3, 0));
        due.none("house", () -> x.eases(0, 3));
        HornHouses y = Due.town("house 10 1 5;person 12 2 in 0;eases worn+day*3;");
        y.days(2);
        due.is("worn 2 + 4, day 2", y.eases(0, 0), 12);
        HornHouses z = Due.town("house 10 9 5;person 18 0 in 0;damp 9;bursts 0;");
        z.days(20);
        due.is("the most without a rule", z.eases(0, 0), 27);
    }

    // 9
    private static void days() {
        HornHouses x = street();
        due.is("not 0", x.days(0), NONE);
        due.is("not 21", x.days(21), NONE);
        due.is("not below", x.days(-1), NONE);
        due.is("not very many", x.days(Integer.MAX_VALUE), NONE);
        due.is("status", x.count(14), 4);
        due.is("refused ones aren't kept", x.count(10), 0);
        due.is("1", x.days(1), 1);
        due.is("20", x.days(20), 21);
        for (int i = 0; i < 48; i++) {
            x.days(20);
        }
        due.is("day", x.count(2), 981);
        due.is("above 999", x.days(19), NONE);
        due.is("up to 999", x.days(18), 999);
        due.is("above 999", x.days(1), NONE);
        due.is("status", x.count(14), 6);
        due.is("then goes on", x.then(0, 40, 0), 99);
    }

    private static void dayRules() {
        HornHouses x = Due.town("house 1 9 0;person 18 0 in 0;");
        x.days(20);
        due.is("worn is 99 at most", x.house(0, 3), 99);
        due.is("tight 17 isn't more than 9 and 9", x.house(0, 5), 0);
        due.is("blisters", x.person(0, 3), 340);
        x.days(20);
        x.days(20);
        due.is("blisters are 999 at most", x.person(0, 3), 999);
        HornHouses y = Due.town("house 1 9 0;person 20 0 in 0;person 60 9;");
        y.days(1);
        due.is("tight 19 is more", y.house(0, 5), 1);
        due.is("one lodges then", y.person(0, 2), NONE);
        due.is("worn by that day too", y.house(0, 3), 19);
        due.is("69", y.person(1, 0), 69);
        y.days(20);
        due.is("99 at most", y.person(1, 0), 99);
        due.is("burst houses wear no more", y.house(0, 3), 19);
        HornHouses z = Due.town("house 10 0 0;person 11 1 in 0;bursts worn-5;");
        z.days(2);
        due.is("worn 1 + 2", z.house(0, 5), 0);
        z.days(1);
        due.is("worn counts with that day's: 1 + 2 + 3", z.house(0, 5), 1);
        HornHouses v = Due.town("house 10 0 0;person 40 0 in 0;bursts 0;");
        v.days(20);
        due.is("not more than 0", v.house(0, 5), 0);
        HornHouses u = Due.town("house 10 0 0;person 1 0 in 0;bursts day=2 and damp=9;");
        u.days(2);
        u.letIn();
        u.days(1);
        due.is("by the day and its damp, though not tight", u.house(0, 5), 1);
        HornHouses t = Due.town("house 10 0 0;person 12 3 in 0;bursts (heel=15)*(tight=5)*(size=10)*(give=0);");
        t.days(1);
        due.is("heel is 12 on the first day", t.house(0, 5), 0);
        t.days(1);
        due.is("growing comes behind: 15 on the second", t.house(0, 5), 1);
        HornHouses s = Due.town("house 10 0 0;person 12 3 in 0;bursts 0-1;");
        s.days(20);
        due.is("below 0 doesn't burst", s.house(0, 5), 0);
    }

    // 10
    private static void putIn() {
        HornHouses x = street();
        due.is("somebody is there", x.putIn(2, 0), NONE);
        due.is("one is in a house", x.putIn(0, 2), NONE);
        due.is("status", x.count(14), 2);
        due.is("put in", x.putIn(2, 2), 0);
        due.is("the house", x.person(2, 2), 2);
        due.is("who", x.house(2, 4), 2);
        due.is("again", x.putIn(2, 2), NONE);
        due.none("person", () -> x.putIn(3, 2));
        due.none("house", () -> x.putIn(2, 3));
        due.is("status", x.count(14), 3);
        due.is("acts", x.count(10), 1);
        HornHouses y = Due.town("house 10 2 0;person 16 0;person 15 0;damp 3 0;");
        due.is("tight 6 above 5", y.putIn(0, 0), NONE);
        due.is("tight 5", y.putIn(1, 0), 5);
        HornHouses z = Due.town("house 10 2 0;person 20 0;damp 0;");
        due.is("not dry", z.putIn(0, 0), NONE);
        z.letIn();
        due.is("with damp let in 11", z.putIn(0, 0), 10);
        HornHouses b = Due.town("house 10 2 0;person 20 0 in 0;person 1 0;bursts 1;");
        b.days(1);
        due.is("not in a burst one", b.putIn(1, 0), NONE);
    }

    // 11
    private static void out() {
        HornHouses x = street();
        due.is("out", x.out(1), 1);
        due.is("lodges", x.person(1, 2), NONE);
        due.is("nobody", x.house(1, 4), NONE);
        due.is("again", x.out(1), NONE);
        due.is("status", x.count(14), 1);
        due.none("person", () -> x.out(3));
        due.none("person", () -> x.out(-1));
        x.days(3);
        due.is("who lodges has no blisters, but grows", x.person(1, 3), 0);
        due.is("18", x.person(1, 0), 18);
    }

    // 12
    private static void stuff() {
        HornHouses x = street();
        due.is("somebody is there", x.stuff(0, 5), NONE);
        due.is("0", x.stuff(2, 0), NONE);
        due.is("21", x.stuff(2, 21), NONE);
        due.is("status", x.count(14), 3);
        due.is("1", x.stuff(2, 1), 29);
        due.is("20", x.stuff(2, 20), 9);
        due.is("size", x.house(2, 0), 9);
        due.is("not below 1", x.stuff(2, 9), 1);
        due.is("again", x.stuff(2, 20), 1);
        due.is("acts", x.count(10), 4);
        due.none("house", () -> x.stuff(3, 1));
        HornHouses b = Due.town("house 10 2 0;person 20 0 in 0;bursts 1;");
        b.days(1);
        due.is("a burst one too", b.stuff(0, 3), 7);
    }

    // 13
    private static void change() {
        HornHouses x = street();
        due.is("one with oneself", x.change(1, 1), false);
        due.is("15 into 10, eased 4", x.change(0, 1), false);
        due.is("25 into 10", x.change(1, 2), false);
        due.is("status", x.count(14), 3);
        due.is("25 into 20, eased 5; the other lodges", x.change(0, 2), true);
        due.is("0 lodges", x.person(0, 2), NONE);
        due.is("2 is in 0", x.person(2, 2), 0);
        due.is("and there is", x.house(0, 4), 2);
        due.is("and back, named the other way", x.change(2, 0), true);
        due.is("0 is in 0", x.house(0, 4), 0);
        due.is("acts", x.count(10), 2);
        due.none("person", () -> x.change(3, 0) ? 1 : 0);
        due.none("other", () -> x.change(0, -1) ? 1 : 0);
        x.out(0);
        due.is("both lodge", x.change(0, 2), false);
        HornHouses y = Due.town("house 20 0 0;house 25 0 0;person 22 0 in 0;person 23 0 in 1;");
        due.is("both", y.change(0, 1), true);
        due.is("0 in 1", y.person(0, 2), 1);
        due.is("1 in 0", y.person(1, 2), 0);
        due.is("who in 0", y.house(0, 4), 1);
        due.is("who in 1", y.house(1, 4), 0);
        HornHouses z = Due.town("house 20 0 0;house 25 0 0;person 22 0 in 0;person 24 0 in 1;");
        due.is("the second doesn't go in", z.change(0, 1), false);
        due.is("nor named first", z.change(1, 0), false);
        HornHouses b = Due.town("house 20 0 0;house 9 0 0;person 1 0 in 0;person 2 0;bursts 1;");
        b.days(1);
        due.is("both lodge: of a burst house", b.change(0, 1), false);
    }

    // 14
    private static void letIn() {
        HornHouses x = street();
        due.is("as it was", x.letIn(), 3);
        due.is("9 now", x.count(3), 9);
        due.is("again", x.letIn(), NONE);
        due.is("status", x.count(14), 1);
        x.days(1);
        due.is("over with the day", x.count(3), 0);
        due.is("the next day", x.letIn(), 0);
        x.undo();
        due.is("undone", x.count(3), 0);
        x.undo();
        due.is("still let in on day 0", x.count(3), 9);
        due.is("so not again", x.letIn(), NONE);
        due.is("as it was, 9", Due.town("damp 9;").letIn(), 9);
        HornHouses y = Due.town("house 5 0 0;person 5 0 in 0;bursts damp=9;");
        y.letIn();
        y.out(0);
        due.is("still let in after another act", y.count(3), 9);
        y.putIn(0, 0);
        due.is("counts for this day", y.burst(0), 1);
        y.out(0);
        y.days(1);
        y.putIn(0, 0);
        due.is("and for this day alone", y.burst(0), NONE);
        HornHouses z = Due.town("house 5 0 0;person 5 0 in 0;bursts damp=9 and day=1;");
        z.letIn();
        due.is("not for the next day", z.burst(0), NONE);
        z.days(2);
        due.is("not when days go by together", z.house(0, 5), 0);
    }

    // 15
    private static void undo() {
        HornHouses x = street();
        due.is("none", x.undo(), NONE);
        due.is("no status", x.count(14), 0);
        x.days(7);
        x.out(0);
        x.stuff(0, 15);
        x.letIn();
        x.putIn(2, 2);
        x.change(1, 2);
        due.is("kept", x.count(10), 6);
        due.is("change undone", x.undo(), 5);
        due.is("2 in 2", x.person(2, 2), 2);
        due.is("1 lodges", x.person(1, 2), NONE);
        due.is("put in undone", x.undo(), 4);
        due.is("2 lodges", x.person(2, 2), NONE);
        due.is("damp is 9 still", x.count(3), 9);
        due.is("let in undone", x.undo(), 3);
        due.is("damp", x.count(3), 0);
        due.is("stuffed undone", x.undo(), 2);
        due.is("size", x.house(0, 0), 20);
        due.is("out undone", x.undo(), 1);
        due.is("who", x.house(0, 4), 0);
        due.is("days undone", x.undo(), 0);
        due.is("day", x.count(2), 0);
        due.is("not burst", x.house(1, 5), 0);
        due.is("not worn", x.house(1, 3), 0);
        due.is("who", x.house(1, 4), 1);
        due.is("size", x.person(1, 0), 12);
        due.is("blisters", x.person(1, 3), 0);
        due.is("none left", x.undo(), NONE);
        for (int i = 0; i < 45; i++) {
            x.days(1);
        }
        due.is("at most 40", x.count(10), 40);
        for (int i = 39; i >= 0; i--) {
            due.is("undo", x.undo(), i);
        }
        due.is("the oldest are gone", x.count(2), 5);
        due.is("none left", x.undo(), NONE);
        x.see(0, 0, 0);
        x.days(1);
        x.forget();
        x.undo();
        due.is("what is seen isn't an act", x.count(11), 0);
    }

    // 16
    private static void then() {
        HornHouses x = street();
        due.is("size now", x.then(1, 0, 0), 12);
        due.is("size in 3", x.then(1, 3, 0), 18);
        due.is("blisters in 3", x.then(1, 3, 2), 12);
        due.is("house in 5", x.then(1, 5, 1), 1);
        due.is("house in 6", x.then(1, 6, 1), NONE);
        due.is("blisters stay", x.then(1, 40, 2), 42);
        due.is("size in 40", x.then(1, 40, 0), 92);
        due.is("nothing changes", x.count(2), 0);
        due.none("person ahead of days", () -> x.then(3, 41, 0));
        due.none("what ahead of days", () -> x.then(0, 41, 3));
        due.none("what below", () -> x.then(0, 0, -1));
        due.bad("41", () -> x.then(0, 41, 0));
        due.bad("-1", () -> x.then(0, -1, 0));
        HornHouses y = Due.town("house 5 0 0;person 5 0 in 0;bursts damp=9;damp 0;");
        y.letIn();
        due.is("damp let in counts", y.then(0, 1, 1), NONE);
    }

    // 17
    private static void worn() {
        HornHouses x = street();
        due.is("now", x.worn(1, 0), 0);
        due.is("2 + 4 + 6 + 8", x.worn(1, 4), 20);
        due.is("stays", x.worn(1, 40), 42);
        due.is("from day 6 on 1 + .. + 12", x.worn(0, 40), 78);
        due.none("house ahead", () -> x.worn(3, 41));
        due.bad("41", () -> x.worn(0, 41));
        due.bad("-1", () -> x.worn(0, -1));
    }

    // 18
    private static void burst() {
        HornHouses x = street();
        due.is("tight 12 on the 6th", x.burst(1), 6);
        due.is("tight 12 on the 18th", x.burst(0), 18);
        due.is("nobody in it", x.burst(2), NONE);
        x.days(6);
        due.is("now", x.burst(1), 0);
        due.is("12 more", x.burst(0), 12);
        due.none("house", () -> x.burst(3));
        due.is("in 40", Due.town("house 5 0 0;person 5 0 in 0;bursts day=39;").burst(0), 40);
        due.is("in 41", Due.town("house 5 0 0;person 5 0 in 0;bursts day=40;").burst(0), NONE);
    }

    // 19
    private static void wriggles() {
        HornHouses x = street();
        due.is("tight now", x.wriggles(1), 1);
        due.is("21 in 20 after 6, blisters in 7", x.wriggles(0), 7);
        due.is("lodges", x.wriggles(2), NONE);
        due.none("person", () -> x.wriggles(3));
        due.is("in 40", Due.town("house 40 0 0;person 1 1 in 0;").wriggles(0), NONE);
        due.is("in 40", Due.town("house 39 0 0;person 1 1 in 0;").wriggles(0), 40);
        HornHouses y = Due.town("house 1 9 0;person 18 0 in 0;");
        y.days(20);
        y.days(20);
        y.days(20);
        due.is("no more than 999", y.wriggles(0), NONE);
    }

    // 20
    private static void barefoot() {
        HornHouses x = street();
        due.is("now", x.barefoot(0), 4);
        due.is("in 5", x.barefoot(5), 4);
        due.is("in 6", x.barefoot(6), 6);
        due.is("in 40", x.barefoot(40), 7);
        due.bad("41", () -> x.barefoot(41));
        due.bad("-1", () -> x.barefoot(-1));
    }

    // 21
    private static void last() {
        HornHouses x = street();
        due.is("which", x.last(0), 0);
        due.is("in how many", x.last(1), 18);
        x.putIn(2, 2);
        due.is("not within 40 is later", x.last(0), 2);
        due.is("none", x.last(1), NONE);
        due.none("what", () -> x.last(2));
        due.none("what", () -> x.last(-1));
        HornHouses y = Due.town("house 9 0 0;house 9 0 0;house 9 0 0;"
            + "person 9 0 in 2;person 9 0 in 1;bursts day=3;");
        due.is("of like ones the least", y.last(0), 1);
        due.is("in 4", y.last(1), 4);
        y.days(4);
        due.is("nobody is in any", y.last(0), NONE);
        due.is("nobody is in any", y.last(1), NONE);
        HornHouses z = Due.town("house 9 0 0;house 9 0 0;person 9 0 in 1;person 9 0 in 0;");
        due.is("neither bursts", z.last(0), 0);
        due.is("on the 40th", Due.town("house 9 0 0;person 9 0 in 0;bursts day=39;").last(1), 40);
        due.is("on the 41st", Due.town("house 9 0 0;person 9 0 in 0;bursts day=40;").last(1), NONE);
    }

    // 22
    private static void goes() {
        HornHouses x = street();
        due.is("one's own, and the large one", x.goes(0), 5);
        due.is("all", x.goes(1), 7);
        due.is("20 with 5, and 30", x.goes(2), 5);
        x.letIn();
        due.is("with damp 10 isn't enough for 25", x.goes(2), 5);
        due.is("but for 15", x.goes(0), 7);
        x.days(6);
        due.is("24: 20 with 5, and 30, not the burst one", x.goes(1), 5);
        due.none("person", () -> x.goes(3));
    }

    // 23
    private static void match() {
        HornHouses x = street();
        due.is("nobody lodges", x.match(0), 0);
        due.is("tight", x.match(1), 2);
        x.days(6);
        due.is("21, 24, 25 for 20 and 30", x.match(0), 1);
        due.is("least tight: 21 in 20", x.match(1), 1);
        due.none("what", () -> x.match(2));
        due.none("what", () -> x.match(-1));
        HornHouses y = Due.town("house 10 9 0;house 20 0 0;person 10 0;person 20 0;eases give+1;");
        due.is("both in", y.match(0), 0);
        due.is("each where it fits", y.match(1), 0);
        HornHouses z = Due.town("house 10 9 0;house 20 0 0;person 19 0;person 20 0;damp 0;");
        due.is("fewer lodge with more tight", z.match(0), 0);
        due.is("19 in 10", z.match(1), 9);
        due.is("no houses", Due.town("person 19 0;person 20 0;").match(0), 2);
        due.is("no houses, none tight", Due.town("person 19 0;person 20 0;").match(1), 0);
    }

    // 24
    private static void matched() {
        HornHouses x = street();
        due.is("0", x.matched(0), 0);
        due.is("1", x.matched(1), 1);
        due.is("2", x.matched(2), 2);
        due.none("person", () -> x.matched(3));
        HornHouses y = Due.town("house 9 0 0;house 9 0 0;person 9 0;person 9 0 in 0;person 9 0;");
        due.is("the first row: 0", y.matched(0), 0);
        due.is("the first row: 1", y.matched(1), 1);
        due.is("to lodge behind all", y.matched(2), NONE);
        HornHouses z = Due.town("house 10 0 0;house 12 0 0;person 11 0;person 10 0;");
        due.is("least tight ahead of the first row", z.matched(0), 1);
        due.is("least tight ahead of the first row", z.matched(1), 0);
        HornHouses v = Due.town("house 5 0 0;house 9 0 0;house 9 0 0;person 9 0;person 5 0;eases 4;");
        due.is("0 in the first that fits", v.matched(0), 1);
        due.is("1 in the first", v.matched(1), 0);
        HornHouses b = Due.town("house 9 0 0;house 9 0 0;person 9 0 in 0;bursts 1;");
        b.days(1);
        due.is("not in a burst one", b.matched(0), 1);
        HornHouses w = Due.town("house 9 0 0;".repeat(8) + "person 9 0;".repeat(8));
        for (int p = 0; p < 8; p++) {
            due.is("eight of eight", w.matched(p), p);
        }
    }

    // 25
    private static void trade() {
        HornHouses x = street();
        due.is("one's own", x.trade(0), 0);
        due.is("one's own", x.trade(1), 1);
        due.is("lodges", x.trade(2), NONE);
        due.none("person", () -> x.trade(3));
        HornHouses y = Due.town("house 10 0 0;house 20 0 0;house 30 0 0;"
            + "person 20 0 in 0;person 30 0 in 1;person 10 0 in 2;");
        due.is("a ring of three: 0", y.trade(0), 1);
        due.is("a ring of three: 1", y.trade(1), 2);
        due.is("a ring of three: 2", y.trade(2), 0);
        HornHouses z = Due.town("house 10 0 0;house 20 0 0;house 30 0 0;house 40 0 0;"
            + "person 30 0 in 1;person 30 0 in 2;person 40 0 in 0;person 38 0 in 3;");
        due.is("1 keeps what it has", z.trade(1), 2);
        due.is("3 keeps what it has", z.trade(3), 3);
        due.is("then 0, who wanted that, has its own: 20", z.trade(0), 1);
        due.is("at last 2 its own", z.trade(2), 0);
        HornHouses v = Due.town("house 10 0 0;house 14 0 0;person 12 0 in 1;person 14 0 in 0;");
        due.is("of like ones the least: 10 for 12", v.trade(0), 0);
        due.is("14 for 14", v.trade(1), 1);
        HornHouses e = Due.town("house 10 0 0;house 20 0 0;person 20 0 in 0;person 11 0 in 1;eases 0;");
        due.is("whether they go in doesn't count", e.trade(1), 0);
        HornHouses one = Due.town("house 1 0 0;person 60 9 in 0;bursts 0;");
        one.days(5);
        due.is("98 off", one.trade(0), 0);
        HornHouses rows = Due.town("house 10 0 0;house 11 0 0;house 12 0 0;house 13 0 0;house 14 0 0;"
            + "house 15 0 0;house 16 0 0;house 17 0 0;person 10 0 in 0;person 10 0 in 1;person 10 0 in 2;"
            + "person 10 0 in 3;person 10 0 in 4;person 10 0 in 5;person 10 0 in 6;person 10 0 in 7;");
        HornHouses ring = Due.town("house 1 0 0;house 2 0 0;house 3 0 0;house 4 0 0;house 5 0 0;"
            + "house 6 0 0;house 7 0 0;house 8 0 0;person 2 0 in 0;person 3 0 in 1;person 4 0 in 2;"
            + "person 5 0 in 3;person 6 0 in 4;person 7 0 in 5;person 8 0 in 6;person 1 0 in 7;");
        for (int p = 0; p < 8; p++) {
            due.is("eight times one alone", rows.trade(p), p);
            due.is("eight times one alone", rows.ringed(p), 1);
            due.is("a ring of eight", ring.trade(p), (p + 1) % 8);
            due.is("a ring of eight", ring.ringed(p), 8);
        }
        due.is("houses nobody is in aren't theirs",
            Due.town("house 10 0 0;house 20 0 0;person 20 0 in 0;").trade(0), 0);
    }

    // 26
    private static void toStuff() {
        HornHouses x = street();
        due.is("20 to 15", x.toStuff(0, 0), 5);
        due.is("30 to 15", x.toStuff(0, 2), 15);
        due.is("30 to 12", x.toStuff(1, 2), 18);
        due.is("no larger now", x.toStuff(2, 1), 0);
        due.none("person", () -> x.toStuff(3, 0));
        due.none("house", () -> x.toStuff(0, 3));
        HornHouses y = Due.town("house 21 0 0;house 22 0 0;house 11 0 0;person 1 0;person 11 0;");
        due.is("by 20", y.toStuff(0, 0), 20);
        due.is("by 21", y.toStuff(0, 1), NONE);
        due.is("as large", y.toStuff(1, 2), 0);
    }

    // 27
    private static void toWait() {
        HornHouses x = street();
        due.is("now", x.toWait(2, 0), 0);
        due.is("grows too fast", x.toWait(0, 1), NONE);
        due.is("one's own", x.toWait(1, 1), 0);
        due.none("person", () -> x.toWait(3, 0));
        due.none("house", () -> x.toWait(0, 3));
        HornHouses y = Due.town("house 10 0 0;person 15 0;damp 1 2 3 4 7 9;");
        due.is("for damp 7", y.toWait(0, 0), 4);
        y.letIn();
        due.is("damp let in", y.toWait(0, 0), 0);
        HornHouses z = Due.town("house 10 0 0;person 12 0;person 15 0 in 0;damp 0;");
        due.is("for worn 20", z.toWait(0, 0), 4);
        due.is("in 40", Due.town("house 9 0 0;person 9 0;person 10 0;eases day/40;").toWait(1, 0), 40);
        due.is("in 41", Due.town("house 9 0 0;person 10 0;eases day/41;").toWait(0, 0), NONE);
        HornHouses b = Due.town("house 10 0 0;person 10 0;person 10 0 in 0;eases day;bursts day=0;");
        due.is("were it not burst", b.toWait(0, 0), 0);
        b.days(1);
        due.is("burst", b.toWait(0, 0), NONE);
        HornHouses c = Due.town("house 10 0 0;person 13 0;person 10 0 in 0;eases day;bursts day=2;");
        due.is("burst when one would go in", c.toWait(0, 0), NONE);
    }

    // 28
    private static void round() {
        HornHouses x = street();
        due.is("from 0", x.round(0), 5);
        due.is("from 9", x.round(9), 4);
        due.is("from 5", x.round(5), 0);
        due.is("from 30", x.round(30), 25);
        due.bad("31", () -> x.round(31));
        due.bad("-1", () -> x.round(-1));
        HornHouses y = Due.town("house 9 0 4;house 9 0 10;house 9 0 20;house 9 0 30;"
            + "person 10 0 in 0;person 10 0 in 1;person 11 0 in 2;person 9 0 in 3;");
        due.is("from the left", y.round(0), 20);
        due.is("nearer to the left", y.round(11), 23);
        due.is("between", y.round(12), 24);
        due.is("nearer to the right", y.round(13), 23);
        due.is("from the right", y.round(30), 26);
        y.out(2);
        due.is("lodgers don't count", y.round(0), 10);
        due.is("none", Due.town("house 9 0 4;person 9 0 in 0;person 20 0;").round(30), 0);
    }

    // 29
    private static void see() {
        HornHouses x = street();
        due.is("first", x.see(0, 0, 0), 1);
        due.is("the same again", x.see(0, 0, 0), 2);
        due.is("days 21", x.see(0, 21, 0), NONE);
        due.is("days -1", x.see(0, -1, 0), NONE);
        due.is("worn 100", x.see(0, 0, 100), NONE);
        due.is("worn -1", x.see(0, 0, -1), NONE);
        due.is("status", x.count(15), 4);
        due.is("edges", x.see(2, 20, 99), 3);
        due.is("many", x.count(11), 3);
        for (int i = 4; i <= 8; i++) {
            due.is("see", x.see(1, i, 5), i);
        }
        due.is("there are 8", x.see(1, 1, 1), NONE);
        due.is("status", x.count(15), 5);
        due.none("house ahead", () -> x.see(3, 21, 100));
        due.none("house", () -> x.see(-1, 0, 0));
        due.is("no status then", x.count(15), 5);
    }

    // 30
    private static void forget() {
        HornHouses x = street();
        x.see(1, 1, 99);
        due.is("not so", x.large(2), 0);
        x.forget();
        due.is("forgotten", x.count(11), 0);
        due.is("so", x.large(2), 1);
        due.is("anew", x.see(0, 0, 0), 1);
        due.is("status", x.count(15), 0);
    }

    // 31
    private static void large() {
        HornHouses x = street();
        due.is("59 of each", x.large(0), 177);
        due.is("the first", x.large(1), 1);
        due.is("without", x.large(2), 1);
        x.see(1, 2, 6);
        due.is("59 of both others", x.large(0), 118);
        due.is("without", x.large(2), 1);
        x.see(0, 1, 3);
        due.is("only 0 being 23", x.large(0), 1);
        due.is("the first", x.large(1), 23);
        due.is("not without", x.large(2), 0);
        x.see(1, 1, 3);
        due.is("not both", x.large(0), 0);
        due.is("none", x.large(1), NONE);
        x.forget();
        x.see(1, 1, 4);
        due.is("1 being 14", x.large(0), 1);
        due.is("100 by who, and the size", x.large(1), 114);
        x.forget();
        x.see(1, 0, 0);
        due.is("now it is so, whoever", x.large(0), 177);
        x.forget();
        x.see(2, 20, 0);
        due.is("nobody is there", x.large(0), 177);
        x.forget();
        x.see(1, 20, 42);
        due.is("burst at 12, or 10, or 11?", x.large(2), 1);
        due.none("what", () -> x.large(3));
        due.none("what", () -> x.large(-1));
        HornHouses y = Due.town("person 60 9;person 1 0;");
        y.days(1);
        due.is("60 sizes of one who is 69", y.large(0), 119);
        HornHouses z = Due.town("house 10 0 0;person 10 0 in 0;person 9 0;");
        z.see(0, 3, 6);
        due.is("3 days of 2", z.large(1), 12);
        z.days(1);
        z.days(1);
        due.is("from now on, whatever day it is", z.large(1), 12);
        z.see(0, 1, 2);
        due.is("both hold", z.large(0), 1);
        z.see(0, 2, 5);
        due.is("not all", z.large(0), 0);
        HornHouses v = Due.town("house 58 0 0;person 1 0 in 0;");
        v.see(0, 1, 2);
        due.is("60 alone", v.large(1), 60);
        due.is("no people, all seen so", Due.town("house 1 1 1;").large(2), 1);
    }

    // 32
    private static void next() {
        HornHouses x = street();
        x.see(1, 2, 6);
        due.is("the sill", x.next(0), 0);
        due.is("how many", x.next(1), 37);
        x.see(1, 0, 5);
        due.is("none", x.next(0), NONE);
        due.is("none", x.next(1), 0);
        due.none("what", () -> x.next(2));
        due.none("what", () -> x.next(-1));
        HornHouses y = Due.town("house 58 0 0;house 56 0 0;house 57 0 0;"
            + "person 1 0 in 0;person 1 0 in 1;person 1 0;");
        due.is("56: 0, 5, 10, 15, 20", y.next(1), 5);
        due.is("its house", y.next(0), 1);
        HornHouses z = Due.town("house 9 0 0;house 9 0 0;person 1 0;person 3 0;");
        due.is("of like ones the least", z.next(0), 0);
        due.is("all alike", z.next(1), 1);
        due.is("no houses", Due.town("person 1 0;").next(0), NONE);
        due.is("no people", Due.town("house 1 0 0;").next(1), 0);
        HornHouses v = Due.town("house 58 0 0;person 60 0 in 0;");
        due.is("0 and 5; not 10, which one has", v.next(1), 2);
        v.days(1);
        due.is("worn 2 ahead", v.next(1), 2);
        HornHouses w = Due.town("house 60 0 0;house 58 0 0;person 60 0 in 1;person 60 0 in 0;");
        due.is("one's own by the others': 0, 5 and 10", w.next(1), 3);
        due.is("its house", w.next(0), 1);
    }

    // 33
    private static void byDamp() {
        HornHouses x = Due.town("house 10 0 0;house 9 0 0;person 10 0 in 0;damp 9;bursts damp=9;");
        x.letIn();
        due.is("3 of 10", x.byDamp(0, 1, 3), 3);
        due.is("100 - 49", x.byDamp(0, 2, 3), 51);
        due.is("100000 - 16807", x.byDamp(0, 5, 3), 83193);
        due.is("never", x.byDamp(0, 5, 0), 0);
        due.is("always", x.byDamp(0, 5, 10), 100000);
        due.is("nobody in it", x.byDamp(1, 5, 10), 0);
        due.none("house ahead", () -> x.byDamp(2, 0, 11));
        due.bad("no days", () -> x.byDamp(0, 0, 5));
        due.bad("6 days", () -> x.byDamp(0, 6, 5));
        due.bad("tenths", () -> x.byDamp(0, 1, -1));
        due.bad("tenths", () -> x.byDamp(0, 1, 11));
        x.days(1);
        due.is("burst now", x.byDamp(0, 3, 0), 1000);
        HornHouses y = Due.town("house 10 0 0;person 10 0 in 0;bursts damp=0 and day=1;");
        due.is("on the second day", y.byDamp(0, 2, 3), 70);
        due.is("not on the first", y.byDamp(0, 1, 3), 0);
        due.is("nothing changes", y.count(2), 0);
        HornHouses z = Due.town("house 10 0 0;person 11 1 in 0;bursts worn+damp-14;");
        due.is("worn 1, 3, 6 and 9", z.byDamp(0, 3, 4), 400);
        due.is("and growing to 10 on the fourth", z.byDamp(0, 4, 4), 6400);
    }

    // 34
    private static void game() {
        HornHouses x = street();
        due.is("one couple", x.game(0, 2, 0, 0), 1);
        due.is("the lesser goes", x.game(0, 2, 0, 1), 10);
        due.is("the other way", x.game(2, 0, 0, 1), 1);
        due.is("both would lose 3: 25 and 15 in 10", x.game(0, 2, 1, 1), 0);
        due.is("none goes", x.game(0, 2, 1, 0), 1);
        due.is("of like ones the lesser has it", x.game(1, 0, 2, 1), 1);
        due.none("person", () -> x.game(3, 0, 0, 0));
        due.none("other", () -> x.game(0, 3, 0, 0));
        due.none("house", () -> x.game(0, 1, 3, 0));
        due.none("what ahead", () -> x.game(1, 1, 0, 2));
        due.bad("both are one", () -> x.game(1, 1, 0, 0));
        HornHouses y = Due.town("house 10 0 0;person 19 0;person 19 0;eases 9;");
        due.is("alone 20 - 18 is 2: like not going", y.game(0, 1, 0, 0), 3);
        due.is("none goes is the first", y.game(0, 1, 0, 1), 0);
        HornHouses z = Due.town("house 10 0 0;person 20 0;person 18 0;eases 10;");
        due.is("0 or 4: the less tight goes", z.game(0, 1, 0, 0), 1);
        due.is("0 or 4: the less tight goes", z.game(0, 1, 0, 1), 1);
        HornHouses v = Due.town("house 10 0 0;person 12 0;person 20 0;eases (heel=20)*10;");
        due.is("the less tight loses 3, the other one would gain 0", v.game(0, 1, 0, 0), 1);
        due.is("so none goes", v.game(0, 1, 0, 1), 0);
        HornHouses w = Due.town("house 10 0 0;person 12 0;person 15 0;eases (heel=15)*10;");
        due.is("who would go in alone goes", w.game(0, 1, 0, 1), 1);
        HornHouses b = Due.town("house 10 0 0;person 1 0 in 0;person 1 0;bursts 1;");
        due.is("somebody is in it: were nobody", b.game(0, 1, 0, 1), 10);
        b.days(1);
        due.is("burst: none goes", b.game(0, 1, 0, 1), 0);
    }

    // 35
    private static void years() {
        HornHouses x = street();
        due.is("no days: burst", x.years(5, 0, 0), 0);
        due.is("no days: blisters", x.years(5, 0, 1), 0);
        due.is("no days: lodge", x.years(5, 0, 2), 1);
        due.none("what ahead", () -> x.years(5, 41, 3));
        due.none("what", () -> x.years(5, 0, -1));
        due.bad("41", () -> x.years(5, 41, 0));
        due.bad("-1", () -> x.years(5, -1, 0));
        int[] draws = draws(0, 3);
        HornHouses y = Due.town("house 9 0 0;person 9 0;eases (damp=" + draws[0] % 10 + ")*9;");
        due.is("in with that damp, by the draws of 10, 1, 1", y.years(0, 1, 2), 0);
        HornHouses z = Due.town("house 9 0 0;person 10 0;eases (damp=" + (draws[0] + 1) % 10 + ")*9;");
        due.is("not with another", z.years(0, 1, 2), 1);
        HornHouses v = Due.town("house 9 0 0;person 10 0;eases 9;bursts damp=" + draws[0] % 10 + ";");
        due.is("bursts with that damp", v.years(0, 1, 0), 1);
        due.is("blisters", v.years(0, 1, 1), 1);
        due.is("lodges again", v.years(0, 1, 2), 1);
        due.is("nothing changes", v.count(7), 0);
        HornHouses many = Due.town("house 9 0 0;house 9 0 0;house 9 0 0;person 10 0;person 11 0;"
            + "person 13 0;person 17 0;person 25 0;eases 30;bursts 0;");
        due.is("who: the second draw", many.years(0, 1, 1), new int[] {1, 2, 4, 8, 16}[draws[1] % 5]);
        HornHouses sizes = Due.town("house 9 0 0;house 8 0 0;house 6 0 0;house 2 0 0;house 1 0 0;"
            + "person 10 0;eases 30;bursts 0;");
        due.is("where: the third draw", sizes.years(0, 1, 1), new int[] {1, 2, 4, 8, 9}[draws[2] % 5]);
        int[] longer = draws(-77, 80);
        HornHouses alone = Due.town("house 9 0 0;");
        due.is("no people: nothing", alone.years(-77, 40, 0), 0);
        HornHouses wet = Due.town("house 9 0 0;person 10 0 in 0;bursts (damp=" + longer[3] % 10
            + ") and day=1;");
        due.is("three draws a day", wet.years(-77, 2, 0), 1);
        HornHouses let = Due.town("house 9 0 0;person 10 0 in 0;bursts damp=9;");
        let.letIn();
        due.is("damp let in doesn't count", let.years(0, 1, 0), draws[0] % 10 == 9 ? 1 : 0);
    }

    /** By arithmetic of longs, apart from the class. */
    private static int[] draws(int seed, int many) {
        int[] row = new int[many];
        long at = seed;
        for (int i = 0; i < many; i++) {
            at = Math.floorMod(at * 1103515245L + 12345L, 1L << 32);
            row[i] = (int) (at / 65536 % 32768);
        }
        return row;
    }

    // 36
    private static void heirs() {
        HornHouses x = street();
        due.is("all in 20", x.heirs(0), 7);
        due.is("12 in 10", x.heirs(1), 2);
        due.is("all in 30", x.heirs(2), 7);
        x.days(6);
        due.is("none in a burst one", x.heirs(1), 0);
        due.none("house", () -> x.heirs(3));
        due.none("house", () -> x.heirs(-1));
    }

    // 37
    private static void toGrow() {
        HornHouses x = street();
        due.is("15 to 20 by 1", x.toGrow(0, 0), 5);
        due.is("12 to 30 by 2", x.toGrow(1, 2), 9);
        due.is("25 doesn't grow", x.toGrow(2, 2), NONE);
        due.is("larger now", x.toGrow(2, 0), 0);
        due.none("person", () -> x.toGrow(3, 0));
        due.none("house", () -> x.toGrow(0, 3));
        due.is("12 to 21 by 2: more than as large", Due.town("house 21 0 0;person 12 2;").toGrow(0, 0), 5);
        due.is("in 40", Due.town("house 41 0 0;person 1 1;").toGrow(0, 0), 40);
        due.is("in 41", Due.town("house 42 0 0;person 1 1;").toGrow(0, 0), NONE);
        due.is("as large now", Due.town("house 42 0 0;person 42 0;").toGrow(0, 0), 0);
    }

    // 38
    private static void paid() {
        HornHouses x = street();
        due.is("now", x.paid(0), 0);
        due.is("2 + 4 + 6", x.paid(3), 12);
        due.is("42 + 78", x.paid(40), 120);
        x.days(1);
        due.is("less those of now", x.paid(2), 10);
        due.bad("41", () -> x.paid(41));
        due.bad("-1", () -> x.paid(-1));
    }

    // 39
    private static void wornest() {
        HornHouses x = street();
        due.is("now all alike", x.wornest(0), 0);
        due.is("in 3", x.wornest(3), 1);
        due.is("in 40: 78", x.wornest(40), 0);
        due.bad("41", () -> x.wornest(41));
        due.bad("-1", () -> x.wornest(-1));
        due.is("no houses", Due.town("person 1 1;").wornest(1), NONE);
        due.is("of like ones the least", Due.town("house 9 0 0;house 9 0 0;house 9 0 0;"
            + "person 10 0 in 2;person 10 0 in 1;").wornest(1), 1);
    }

    // 40
    private static void dampest() {
        HornHouses x = Due.town("damp 3 5 4 5 7;");
        due.is("this one of one", x.dampest(1), 0);
        due.is("of two", x.dampest(2), 1);
        due.is("of like ones the first", x.dampest(4), 1);
        due.is("of five", x.dampest(5), 4);
        due.is("of 40", x.dampest(40), 4);
        x.days(2);
        due.is("from day 2", x.dampest(2), 1);
        due.is("from day 2", x.dampest(40), 2);
        x.letIn();
        due.is("damp let in", x.dampest(40), 0);
        due.bad("0", () -> x.dampest(0));
        due.bad("41", () -> x.dampest(41));
        due.is("3 without", new HornHouses().dampest(40), 0);
    }

    // 41
    private static void kept() {
        HornHouses x = street();
        due.is("now: lodgers are in none", x.kept(0), 3);
        due.is("in 5", x.kept(5), 3);
        due.is("in 6", x.kept(6), 1);
        due.is("in 18", x.kept(18), 0);
        due.bad("41", () -> x.kept(41));
        due.bad("-1", () -> x.kept(-1));
    }

    // 42
    private static void sorest() {
        HornHouses x = street();
        due.is("nobody sore: the least", x.sorest(0), 0);
        due.is("in 3", x.sorest(3), 1);
        due.is("in 40", x.sorest(40), 0);
        due.bad("41", () -> x.sorest(41));
        due.bad("-1", () -> x.sorest(-1));
        due.is("nobody", Due.town("house 1 1 1;").sorest(1), NONE);
        due.is("of like ones the least", Due.town("house 9 0 0;house 9 0 0;"
            + "person 1 0;person 10 0 in 1;person 10 0 in 0;").sorest(2), 1);
    }

    // 43
    private static void eased() {
        HornHouses x = street();
        due.is("4, 1, 4, 2, 6", x.eased(1, 1, 5), 4);
        due.is("4, 1, 4", x.eased(1, 1, 3), 0);
        due.is("one day", x.eased(1, 1, 1), 0);
        due.none("person ahead", () -> x.eased(3, 0, 0));
        due.none("house ahead", () -> x.eased(0, 3, 0));
        due.bad("0", () -> x.eased(0, 0, 0));
        due.bad("41", () -> x.eased(0, 0, 41));
        HornHouses y = Due.town("house 9 0 0;person 5 3;eases heel;");
        due.is("5, 8, .. kept to 30: 32 is the 10th", y.eased(0, 0, 40), 9);
        HornHouses z = Due.town("house 9 0 0;person 5 3;eases (day=4)*5+(day=2)*4;");
        due.is("on day 4", z.eased(0, 0, 40), 4);
        due.is("of 4 days day 2", z.eased(0, 0, 4), 2);
        HornHouses v = Due.town("house 9 0 0;person 5 3;eases damp;damp 4 8;");
        due.is("damp 8", v.eased(0, 0, 2), 1);
        v.letIn();
        due.is("damp let in", v.eased(0, 0, 2), 0);
    }

    // 44
    private static void free() {
        HornHouses x = street();
        due.is("for who lodges", x.free(2), 2);
        due.is("for who is in a house", x.free(0), 2);
        x.putIn(2, 2);
        due.is("none", x.free(0), NONE);
        due.none("person", () -> x.free(3));
        HornHouses y = Due.town("house 10 0 0;house 12 0 0;house 11 0 0;house 12 0 0;person 13 0;person 30 0;");
        due.is("least tight, the least", y.free(0), 1);
        due.is("none goes in", y.free(1), NONE);
        HornHouses z = Due.town("house 20 0 0;house 30 0 0;person 13 0;");
        due.is("all not tight: the least", z.free(0), 0);
        HornHouses b = Due.town("house 10 0 0;house 9 0 0;person 10 0 in 0;bursts 1;");
        b.days(1);
        due.is("not a burst one", b.free(0), 1);
        due.is("30 tight", Due.town("house 10 0 0;person 40 0;eases 99;").free(0), 0);
    }

    // 45
    private static void larger() {
        HornHouses x = street();
        due.is("12: 15 and 25", x.larger(1), 2);
        due.is("15: 25", x.larger(0), 1);
        due.is("25", x.larger(2), 0);
        due.none("person", () -> x.larger(3));
        due.is("as large isn't larger", Due.town("person 9 0;person 9 0;person 10 0;").larger(0), 1);
        x.days(3);
        due.is("18 and 18", x.larger(1), 1);
    }

    // 46
    private static void wide() {
        HornHouses x = street();
        due.is("20 or more", x.wide(20), 5);
        due.is("21 or more", x.wide(21), 4);
        due.is("31 or more", x.wide(31), 0);
        due.is("1 or more", x.wide(1), 7);
        due.is("60", x.wide(60), 0);
        due.bad("0", () -> x.wide(0));
        due.bad("61", () -> x.wide(61));
        x.days(6);
        due.is("not burst ones", x.wide(1), 5);
        x.stuff(2, 20);
        due.is("stuffed", x.wide(20), 1);
    }

    // 47
    private static void endures() {
        HornHouses x = street();
        due.is("25 in 10", x.endures(2, 1), 1);
        due.is("25 in 30", x.endures(2, 2), NONE);
        due.is("one's own", x.endures(0, 0), 18);
        due.is("15 in 10: 11 on the 7th", x.endures(0, 1), 7);
        due.is("12 in 20: 32 on the 11th", x.endures(1, 0), 11);
        due.is("nothing changes", x.house(1, 4), 1);
        due.none("person", () -> x.endures(3, 0));
        due.none("house", () -> x.endures(0, 3));
        x.days(6);
        due.is("burst now", x.endures(1, 1), NONE);
        due.is("in 40", Due.town("house 5 0 0;person 5 0;bursts day=39;").endures(0, 0), 40);
        due.is("in 41", Due.town("house 5 0 0;person 5 0;bursts day=40;").endures(0, 0), NONE);
        HornHouses y = Due.town("house 9 0 0;person 10 0;bursts worn+damp-10;damp 0;");
        due.is("worn 11", y.endures(0, 0), 11);
        y.letIn();
        due.is("worn 1 and 9 is 10 only", y.endures(0, 0), 11);
        y.stuff(0, 1);
        due.is("worn 2 and 9", y.endures(0, 0), 1);
    }

    // 48
    private static void ringed() {
        HornHouses x = street();
        due.is("alone", x.ringed(0), 1);
        due.is("alone", x.ringed(1), 1);
        due.is("lodges", x.ringed(2), 0);
        due.none("person", () -> x.ringed(3));
        HornHouses y = Due.town("house 10 0 0;house 20 0 0;house 30 0 0;house 50 0 0;"
            + "person 20 0 in 0;person 30 0 in 1;person 10 0 in 2;person 9 0 in 3;");
        due.is("three", y.ringed(0), 3);
        due.is("three", y.ringed(1), 3);
        due.is("three", y.ringed(2), 3);
        due.is("who stands behind the ring", y.ringed(3), 1);
        HornHouses z = Due.town("house 10 0 0;house 20 0 0;house 50 0 0;"
            + "person 20 0 in 0;person 10 0 in 1;person 50 0 in 2;");
        due.is("two", z.ringed(1), 2);
        due.is("two rings at once", z.ringed(2), 1);
    }

    // 49, 50
    private static void imageAndRestore() {
        HornHouses x = street();
        due.is("none", x.restore(), false);
        x.days(1);
        x.letIn();
        x.see(0, 1, 2);
        x.image();
        x.days(5);
        x.stuff(1, 3);
        x.out(0);
        x.putIn(2, 2);
        x.see(0, 1, 3);
        x.days(0);
        x.see(0, 1, 100);
        Due.feed(x, "house");
        due.is("restored", x.restore(), true);
        due.is("day", x.count(2), 1);
        due.is("damp let in", x.count(3), 9);
        due.is("burst", x.count(4), 0);
        due.is("who is where", x.count(5), 3);
        due.is("blisters", x.count(7), 2);
        due.is("acts", x.count(10), 2);
        due.is("seen", x.count(11), 1);
        due.is("the tape stays", x.count(12), 20);
        due.is("status stays", x.count(14), 1);
        due.is("status stays", x.count(15), 1);
        due.is("size of a house", x.house(1, 0), 10);
        due.is("worn", x.house(1, 3), 2);
        due.is("who", x.house(0, 4), 0);
        due.is("size of a person", x.person(1, 0), 14);
        due.is("where", x.person(2, 2), NONE);
        due.is("acts are undone as they were", x.undo(), 1);
        due.is("let in undone", x.count(3), 0);
        due.is("undone", x.undo(), 0);
        due.is("day 0", x.count(2), 0);
        due.is("again from the image", x.restore(), true);
        due.is("day", x.count(2), 1);
        due.is("acts", x.count(10), 2);
        x.forget();
        x.days(2);
        x.image();
        x.undo();
        x.restore();
        due.is("in place of another one", x.count(2), 3);
        due.is("seen", x.count(11), 0);
        HornHouses y = new HornHouses();
        for (int i = 0; i < 60; i++) {
            y.days(1);
        }
        y.image();
        for (int i = 0; i < 30; i++) {
            y.undo();
        }
        y.restore();
        due.is("40 acts", y.count(10), 40);
        for (int i = 39; i >= 0; i--) {
            due.is("undo", y.undo(), i);
        }
        due.is("day 20", y.count(2), 20);
        HornHouses z = new HornHouses();
        z.image();
        due.is("of nothing", z.restore(), true);
        Due.tell(z, "house");
        due.is("a fault leaves it", z.restore(), true);
        Due.tell(z, "");
        due.is("a town doesn't", z.restore(), false);
    }
}
