/**
 * What is asked: a test for each sentence of parts 3 to 5 of 'Terms' and of promises 16 to 48 that names
 * a boundary: the last inside, the first outside, which of like ones counts, and when there is none.
 */
public final class AskEdgesTest {
    private static final Due due = new Due();
    private static final int NONE = HornHouses.NONE;
    /** Bursts on the day that a test names: the 40th ahead is day 39. */
    private static final String ON_DAY = "house 9 0 0;person 9 0 in 0;bursts day=";

    public static void main(String[] args) {
        then();
        worn();
        burst();
        wriggles();
        barefoot();
        last();
        goes();
        match();
        matched();
        trade();
        toStuff();
        toWait();
        round();
        see();
        forget();
        large();
        next();
        byDamp();
        game();
        years();
        draws();
        heirs();
        toGrow();
        paid();
        wornest();
        dampest();
        kept();
        sorest();
        eased();
        free();
        larger();
        wide();
        endures();
        ringed();
        due.end("AskEdgesTest");
    }

    /** A call that is asked for so many days. */
    interface ByDays {
        long in(HornHouses x, int days);
    }

    /** From least on to 40 the call answers, else it throws IllegalArgumentException. */
    private static void range(String what, int least, ByDays call) {
        HornHouses x = Twins.rich();
        due.is(what + " of " + least, Due.thrown(() -> call.in(x, least)), 0);
        due.is(what + " of 40", Due.thrown(() -> call.in(x, 40)), 0);
        for (int days : new int[] {least - 1, 41, -1, 42, Integer.MIN_VALUE, Integer.MAX_VALUE}) {
            due.is(what + " of " + days, Due.thrown(() -> call.in(x, days)), 2);
        }
    }

    /** A call that is asked for one of some things. */
    interface ByWhat {
        long of(HornHouses x, int what);
    }

    /** From 0 to most the call answers, else it throws NoSuchElementException. */
    private static void whats(String name, int most, ByWhat call) {
        HornHouses x = Twins.rich();
        for (int what = 0; what <= most; what++) {
            int asked = what;
            due.is(name + ", " + what, Due.thrown(() -> call.of(x, asked)), 0);
        }
        for (int what : new int[] {-1, most + 1, most + 2, Integer.MIN_VALUE, Integer.MAX_VALUE}) {
            due.is(name + ", " + what, Due.thrown(() -> call.of(x, what)), 1);
        }
    }

    /** Of the three that are there the call answers, else it throws NoSuchElementException. */
    private static void three(String name, ByWhat call) {
        whats(name, 2, call);
    }

    // ---- promises 16 to 21: if only days go by

    private static void then() {
        due.says(0, "THEN, in so many DAYS (0 to 40): SIZE of a PERSON, the HOUSE, BLISTERS; how much a HOUSE is WORN");
        HornHouses x = Due.town("house 2 0 0;person 3 1 in 0;bursts day=39;");
        due.is("size now", x.then(0, 0, 0), 3);
        due.is("size in 1", x.then(0, 1, 0), 4);
        due.is("size in 39", x.then(0, 39, 0), 42);
        due.is("size in 40", x.then(0, 40, 0), 43);
        due.is("house now", x.then(0, 0, 1), 0);
        due.is("house in 39", x.then(0, 39, 1), 0);
        due.is("blisters now", x.then(0, 0, 2), 0);
        due.is("blisters in 1", x.then(0, 1, 2), 1);
        due.is("blisters in 39: 1 + .. + 39", x.then(0, 39, 2), 780);
        due.is("blisters in 40: 1 + .. + 40", x.then(0, 40, 2), 820);
        due.says(16, "SIZE (what 0), the HOUSE (1; NONE), BLISTERS (2)");
        due.is("house in 40", x.then(0, 40, 1), NONE);
        due.is("lodges now", Due.town("person 1 1;").then(0, 0, 1), NONE);
        due.is("99 at most", Due.town("person 60 9;").then(0, 40, 0), 99);
        HornHouses sore = Due.town("house 1 0 0;person 60 0 in 0;bursts 0;");
        due.is("999 at most", sore.then(0, 17, 2), 999);
        due.says(16, "NoSuchElementException: also another what. IllegalArgumentException (behind that): not 0 to 40");
        whats("then", 2, (y, what) -> y.then(0, 0, what));
        three("then of one", (y, p) -> y.then(p, 0, 0));
        range("then", 0, (y, days) -> y.then(0, days, 0));
        for (int days : new int[] {-1, 41}) {
            due.none("nobody ahead", () -> x.then(1, days, 0));
            due.none("nobody ahead", () -> x.then(-1, days, 0));
            due.none("what ahead", () -> x.then(0, days, 3));
            due.none("what ahead", () -> x.then(0, days, -1));
        }
    }

    private static void worn() {
        due.says(17, "THEN: WORN");
        HornHouses x = Due.town("house 9 0 0;house 9 0 0;person 11 0 in 0;");
        due.is("now", x.worn(0, 0), 0);
        due.is("in 1", x.worn(0, 1), 2);
        due.is("in 39", x.worn(0, 39), 78);
        due.is("in 40", x.worn(0, 40), 80);
        due.is("nobody is in it", x.worn(1, 40), 0);
        due.is("33 by 3", Due.town("house 1 0 0;person 34 0 in 0;bursts 0;").worn(0, 3), 99);
        due.is("99 at most", Due.town("house 1 0 0;person 34 0 in 0;bursts 0;").worn(0, 40), 99);
        due.says(17, "IllegalArgumentException (behind NoSuchElementException): not 0 to 40");
        range("worn", 0, (y, days) -> y.worn(0, days));
        three("worn of one", (y, h) -> y.worn(h, 0));
        due.none("no house ahead", () -> x.worn(2, 41));
        due.none("no house ahead", () -> x.worn(-1, -1));
    }

    private static void burst() {
        due.says(0, "BURST: in how many DAYS (0 to 40) a HOUSE is BURST first; none");
        due.is("in 1", Due.town(ON_DAY + "0;").burst(0), 1);
        due.is("in 39", Due.town(ON_DAY + "38;").burst(0), 39);
        due.is("in 40", Due.town(ON_DAY + "39;").burst(0), 40);
        due.is("in 41", Due.town(ON_DAY + "40;").burst(0), NONE);
        HornHouses x = Due.town(ON_DAY + "40;");
        x.days(1);
        due.is("in 40 from the next day", x.burst(0), 40);
        HornHouses now = Due.town(ON_DAY + "0;");
        now.days(1);
        due.is("now", now.burst(0), 0);
        due.says(18, "BURST; NONE: none");
        due.is("nobody is in it", Due.town("house 9 0 0;bursts 1;").burst(0), NONE);
        three("burst", (y, h) -> y.burst(h));
    }

    private static void wriggles() {
        due.says(0, "WRIGGLES: in how many DAYS (1 to 40) a PERSON first has more BLISTERS than now; none");
        due.is("in 1", Due.town("house 9 0 0;person 10 0 in 0;").wriggles(0), 1);
        due.is("as large, growing: in 2", Due.town("house 9 0 0;person 9 1 in 0;").wriggles(0), 2);
        due.is("in 39", Due.town("house 38 0 0;person 1 1 in 0;").wriggles(0), 39);
        due.is("in 40", Due.town("house 39 0 0;person 1 1 in 0;").wriggles(0), 40);
        due.is("in 41", Due.town("house 40 0 0;person 1 1 in 0;").wriggles(0), NONE);
        due.is("as large for ever", Due.town("house 9 0 0;person 9 0 in 0;").wriggles(0), NONE);
        due.is("burst ahead", Due.town("house 9 0 0;person 9 1 in 0;bursts day=0;").wriggles(0), NONE);
        due.is("on the day that it bursts", Due.town("house 9 0 0;person 9 1 in 0;bursts day=1;").wriggles(0), 2);
        due.says(19, "WRIGGLES; NONE: none");
        due.is("lodges", Due.town("house 9 0 0;person 10 0;").wriggles(0), NONE);
        HornHouses x = Due.town("house 1 0 0;person 38 0 in 0;bursts 0;");
        x.days(20);
        x.days(6);
        due.is("962 now", x.wriggles(0), 1);
        x.days(1);
        due.is("999 now", x.wriggles(0), NONE);
        three("wriggles", (y, p) -> y.wriggles(p));
    }

    private static void barefoot() {
        due.says(0, "BAREFOOT in so many DAYS (0 to 40): PEOPLE who LODGE, as bits");
        HornHouses x = Due.town(ON_DAY + "39;person 1 0;");
        due.is("now", x.barefoot(0), 2);
        due.is("in 39", x.barefoot(39), 2);
        due.is("in 40", x.barefoot(40), 3);
        due.is("eight", Due.town("person 1 0;".repeat(8)).barefoot(0), 255);
        due.is("nobody is there", Due.town("house 9 0 0;").barefoot(0), 0);
        due.says(20, "IllegalArgumentException: not 0 to 40");
        range("barefoot", 0, (y, days) -> y.barefoot(days));
    }

    private static void last() {
        due.says(0, "LAST: of HOUSES in which somebody is now that which is BURST latest (not within 40 DAYS is"
            + " later than any; of like ones the least): which; in how many DAYS; none");
        String three = "house 9 0 0;house 9 1 0;house 9 2 0;person 9 0 in 2;person 9 0 in 1;person 9 0 in 0;bursts ";
        HornHouses x = Due.town(three + "day=9+give;");
        due.is("the latest", x.last(0), 2);
        due.is("in 12", x.last(1), 12);
        HornHouses like = Due.town(three + "(day=9)*(give=0)+(day=10)*(0<give);");
        due.is("of two like ones", like.last(0), 1);
        due.is("in 11", like.last(1), 11);
        HornHouses late = Due.town(three + "(day=39)*(give=1)+(day=40)*(give=2)+(give=0);");
        due.is("41 is later than 40", late.last(0), 2);
        due.is("not within 40", late.last(1), NONE);
        late.out(0);
        due.is("40", late.last(0), 1);
        due.is("in 40", late.last(1), 40);
        HornHouses never = Due.town(three + "(give=0)*(day=39);");
        due.is("of two that don't burst", never.last(0), 1);
        due.is("in none", never.last(1), NONE);
        due.says(21, "which (what 0; NONE: nobody is in any), in how many DAYS (1; NONE: not within 40)");
        HornHouses empty = Due.town("house 9 0 0;person 9 0;bursts 1;");
        due.is("nobody is in any", empty.last(0), NONE);
        due.is("nobody is in any, days", empty.last(1), NONE);
        due.is("no houses", new HornHouses().last(0), NONE);
        HornHouses gone = Due.town(three + "give=0;");
        gone.days(1);
        due.is("a burst one doesn't count", gone.last(0), 1);
        HornHouses free = Due.town("house 9 0 0;house 9 0 0;person 9 0 in 1;bursts day=3;");
        due.is("one that is free doesn't count", free.last(0), 1);
        due.is("the last of eight", Due.town("house 9 0 0;".repeat(8) + "person 9 0 in 7;").last(0), 7);
        due.is("the first", Due.town("house 9 0 0;house 9 0 0;person 9 0 in 1;person 9 0 in 0;").last(0), 0);
        due.is("the first, bursting", Due.town(ON_DAY + "3;house 9 0 0;").last(0), 0);
        due.says(21, "NoSuchElementException: another what");
        whats("last", 1, (y, what) -> y.last(what));
    }

    // ---- promises 22 to 28: what goes in where

    private static void goes() {
        due.says(0, "GOES: HOUSES (bits) in which a PERSON would GO IN now, were nobody in it");
        HornHouses x = Due.town("house 10 0 0;house 9 0 0;house 8 0 0;house 1 0 0;house 60 0 0;"
            + "person 10 0 in 1;person 1 0 in 0;eases 1;bursts give=0 and heel=1;");
        due.is("tight 0, 1 (one's own), not 2; one where somebody is", x.goes(0), 1 + 2 + 16);
        due.is("all", x.goes(1), 31);
        x.days(1);
        due.is("not the burst one", x.goes(0), 2 + 16);
        due.says(22, "GOES, as bits");
        due.is("all eight", Due.town("house 9 0 0;".repeat(8) + "person 9 0;").goes(0), 255);
        due.is("none", Due.town("house 9 0 0;person 60 0;").goes(0), 0);
        due.is("no houses", Due.town("person 60 0;").goes(0), 0);
        three("goes", (y, p) -> y.goes(p));
    }

    private static void match() {
        due.says(0, "A MATCH of all PEOPLE to HOUSES that aren't BURST, as all are now (no two in one HOUSE, in each"
            + " GOING IN, were all out): that in which fewest LODGE; of these that with least TIGHT, all together");
        HornHouses x = Due.town("house 10 0 0;house 12 0 0;person 12 0;person 14 0;eases 2;");
        due.is("both go in", x.match(0), 0);
        due.is("2 and 2 rather than 0 alone", x.match(1), 4);
        HornHouses tight = Due.town("house 10 0 0;house 12 0 0;person 12 0;person 14 0;eases 1;");
        due.is("tight 2 is too much", tight.match(0), 1);
        due.is("the one who fits", tight.match(1), 0);
        HornHouses burst = Due.town("house 9 0 0;house 9 0 0;person 9 0 in 0;person 9 0 in 1;bursts give=0 and heel=9;");
        due.is("whole", burst.match(0), 0);
        burst.days(1);
        due.is("burst ones don't count", burst.match(0), 2);
        due.is("nor is anything tight", burst.match(1), 0);
        due.is("eight of 30", Due.town("house 1 0 0;".repeat(8) + "person 31 0;".repeat(8) + "eases 30;").match(1), 240);
        due.is("eight by 31 lodge", Due.town("house 1 0 0;".repeat(8) + "person 32 0;".repeat(8) + "eases 99;").match(0), 8);
        due.is("seven of eight", Due.town("house 9 0 0;".repeat(7) + "person 9 0;".repeat(8)).match(0), 1);
        due.is("as all are now: grown", grown().match(0), 1);
        due.is("who is where doesn't count",
            Due.town("house 9 0 0;house 60 0 0;person 60 0 in 0;person 9 0 in 1;eases 0;").match(0), 0);
        due.says(23, "how many LODGE (what 0), how much is TIGHT (1)");
        due.is("nobody is there", Due.town("house 9 0 0;").match(0), 0);
        due.is("no houses", Due.town("person 1 0;".repeat(8)).match(0), 8);
        due.says(23, "NoSuchElementException: another what");
        whats("match", 1, (y, what) -> y.match(what));
    }

    private static HornHouses grown() {
        HornHouses x = Due.town("house 9 0 0;person 9 1;eases 0;");
        x.days(1);
        return x;
    }

    private static void matched() {
        due.says(0, "the HOUSE of one: of like ones the first row (by PEOPLE: the HOUSE; to LODGE behind all)");
        row("like ones", "house 9 0 0;house 9 0 0;person 9 0;person 9 0;", 0, 1);
        row("one lodges", "house 9 0 0;person 9 0;person 9 0;", 0, NONE);
        row("one must", "house 9 0 0;house 9 0 0;person 9 0;person 9 0;person 9 0;", 0, 1, NONE);
        row("least tight ahead of the first row", "house 10 0 0;house 12 0 0;person 12 0;person 10 0;", 1, 0);
        row("as tight: the first row", "house 10 0 0;house 9 0 0;person 12 0;person 12 0;eases 3;", 0, 1);
        row("the least tight of who lodges", "house 9 0 0;person 10 0;person 9 0;", NONE, 0);
        row("fewest lodge ahead of tight", "house 9 0 0;house 5 0 0;person 9 0;person 12 0;eases 4;", 1, 0);
        row("the first in another, if all is alike", "house 9 0 0;house 9 0 0;house 9 0 0;person 9 0;person 8 0;", 0, 1);
        due.says(24, "A MATCH: the HOUSE of one; NONE: one LODGES");
        row("eight", "house 9 0 0;".repeat(8) + "person 9 0;".repeat(8), 0, 1, 2, 3, 4, 5, 6, 7);
        row("the last of eight", "house 1 0 0;".repeat(7) + "house 60 0 0;person 60 0;person 60 0;", 7, NONE);
        row("no houses", "person 9 0;", NONE);
        HornHouses again = Due.town("house 20 0 0;house 9 0 0;person 12 0;person 20 0;damp 3;eases 3;");
        due.is("0 in 1", again.matched(0), 1);
        due.is("1 in 0", again.matched(1), 0);
        again.stuff(1, 1);
        due.is("asked again: 0 in 0", again.matched(0), 0);
        due.is("asked again: 1 lodges", again.matched(1), NONE);
        again.undo();
        due.is("and once more: 0 in 1", again.matched(0), 1);
        due.is("and once more: 1 in 0", again.matched(1), 0);
        three("matched", (y, p) -> y.matched(p));
    }

    private static void row(String what, String text, int... houses) {
        HornHouses x = Due.town(text);
        for (int p = 0; p < houses.length; p++) {
            due.is(what + ": of " + p, x.matched(p), houses[p]);
        }
    }

    private static void trade() {
        due.says(0, "each of those who are left wants, of their HOUSES, that whose SIZE differs least from one's own"
            + " (of like ones the least), and all who stand in a ring, each wanting the HOUSE of the next one"
            + " (one alone, too), have the HOUSE that they want, and are gone with it, till none is left"
            + " (whether they GO IN doesn't count): the HOUSE of one then; none, if one LODGES");
        traded("1 smaller and 1 larger: the least", "house 10 0 0;house 12 0 0;person 11 0 in 1;person 12 0 in 0;", 0, 1);
        traded("1 larger, 2 smaller", "house 10 0 0;house 13 0 0;person 12 0 in 0;person 10 0 in 1;", 1, 0);
        traded("one alone", "house 10 0 0;person 60 0 in 0;", 0);
        traded("those left want anew", "house 10 0 0;house 20 0 0;house 30 0 0;"
            + "person 10 0 in 0;person 10 0 in 2;person 11 0 in 1;", 0, 2, 1);
        traded("of those left the nearest", "house 10 0 0;house 20 0 0;house 30 0 0;"
            + "person 10 0 in 0;person 10 0 in 2;person 29 0 in 1;", 0, 1, 2);
        traded("whether they go in doesn't count", "house 50 0 0;house 1 0 0;"
            + "person 60 0 in 1;person 25 0 in 0;eases 0;", 0, 1);
        traded("the first behind the second", "house 10 0 0;house 20 0 0;person 11 0 in 1;person 10 0 in 0;", 1, 0);
        HornHouses off = Due.town("house 1 0 0;person 60 9 in 0;bursts 0;");
        off.days(5);
        due.is("98 off", off.trade(0), 0);
        String eight = "";
        String people = "";
        for (int i = 0; i < 8; i++) {
            eight += "house " + (10 + i) + " 0 0;";
            people += "person 10 0 in " + i + ";";
        }
        traded("eight times one alone", eight + people, 0, 1, 2, 3, 4, 5, 6, 7);
        due.says(25, "A TRADE: the HOUSE; NONE: one LODGES");
        HornHouses again = Due.town("house 10 0 0;house 20 0 0;person 20 0 in 0;person 10 0 in 1;");
        due.is("both change", again.trade(0), 1);
        again.out(0);
        due.is("one lodges then", again.trade(0), NONE);
        due.is("the other one keeps it", again.trade(1), 1);
        traded("lodgers stand by", "house 10 0 0;house 20 0 0;person 20 0 in 0;person 10 0;", 0, NONE);
        three("trade", (y, p) -> y.trade(p));
    }

    private static void traded(String what, String text, int... houses) {
        HornHouses x = Due.town(text);
        for (int p = 0; p < houses.length; p++) {
            due.is(what + ": of " + p, x.trade(p), houses[p]);
        }
    }

    private static void toStuff() {
        due.says(0, "TO STUFF: the least by which a HOUSE must be STUFFED (0 to 20; not below 1), so that it is no"
            + " larger than a PERSON is; none");
        HornHouses x = Due.town("house 9 0 0;house 10 0 0;house 11 0 0;house 29 0 0;house 30 0 0;house 31 0 0;"
            + "house 60 0 0;person 10 0 in 1;person 1 0;person 60 0;");
        int[] want = {0, 0, 1, 19, 20, NONE, NONE};
        for (int h = 0; h < want.length; h++) {
            due.is("for 10, house " + h, x.toStuff(0, h), want[h]);
            due.is("for 60, house " + h, x.toStuff(2, h), 0);
        }
        due.is("to 1: by 10", x.toStuff(1, 2), 10);
        due.is("21 to 1", Due.town("house 21 0 0;person 1 0;").toStuff(0, 0), 20);
        due.is("22 to 1", Due.town("house 22 0 0;person 1 0;").toStuff(0, 0), NONE);
        due.is("1 to 1", Due.town("house 1 0 0;person 1 0;").toStuff(0, 0), 0);
        due.says(26, "TO STUFF; NONE: none");
        three("person", (y, p) -> y.toStuff(p, 0));
        three("house", (y, h) -> y.toStuff(0, h));
    }

    private static void toWait() {
        due.says(0, "TO WAIT: in how many DAYS (0 to 40), if only these go by, one would first GO IN a HOUSE (that"
            + " isn't BURST then; whoever is in it); none");
        String one = "house 9 0 0;person 10 0;eases ";
        due.is("now", Due.town(one + "1;").toWait(0, 0), 0);
        due.is("in 1", Due.town(one + "day;").toWait(0, 0), 1);
        due.is("in 39", Due.town(one + "day=39;").toWait(0, 0), 39);
        due.is("in 40", Due.town(one + "day=40;").toWait(0, 0), 40);
        due.is("in 41", Due.town(one + "day=41;").toWait(0, 0), NONE);
        String two = "house 9 0 0;person 10 0;person 9 0 in 0;eases day=5;bursts day=";
        due.is("whoever is in it", Due.town(two + "9;").toWait(0, 0), 5);
        due.is("burst on that day", Due.town(two + "5;").toWait(0, 0), 5);
        due.is("burst the day ahead", Due.town(two + "4;").toWait(0, 0), NONE);
        due.is("who is in it oneself", Due.town("house 9 0 0;person 10 0 in 0;eases 1;").toWait(0, 0), 0);
        due.is("grown out of it", Due.town("house 9 0 0;person 9 1;eases (day=2)*2;").toWait(0, 0), 0);
        due.is("grown till then", Due.town("house 9 0 0;person 10 1;eases day*2;").toWait(0, 0), 1);
        due.is("worn by another: 5, 10, 15, 20", Due.town("house 9 0 0;person 11 0;person 14 0 in 0;damp 0;").toWait(0, 0), 4);
        HornHouses wet = Due.town("house 9 0 0;person 18 0;damp 0 0 9;");
        due.is("for damp", wet.toWait(0, 0), 2);
        wet.letIn();
        due.is("damp let in", wet.toWait(0, 0), 0);
        due.says(27, "TO WAIT; NONE: none");
        due.is("never", Due.town(one + "0;").toWait(0, 0), NONE);
        HornHouses burst = Due.town("house 9 0 0;person 9 0;person 9 0 in 0;bursts 1;");
        due.is("today", burst.toWait(0, 0), 0);
        burst.days(1);
        due.is("burst now", burst.toWait(0, 0), NONE);
        three("person", (y, p) -> y.toWait(p, 0));
        three("house", (y, h) -> y.toWait(0, h));
    }

    private static void round() {
        due.says(0, "A ROUND of the man from a PLACE: the fewest steps by all PLACES of HOUSES in which somebody is"
            + " TIGHT now (0, if there are none)");
        HornHouses x = Due.town("house 9 0 0;house 9 0 30;house 9 0 15;person 10 0 in 0;person 10 0 in 1;");
        due.is("from 0", x.round(0), 30);
        due.is("from 30", x.round(30), 30);
        due.is("from 15", x.round(15), 45);
        due.is("from 14", x.round(14), 44);
        due.is("from 16", x.round(16), 44);
        x.out(1);
        due.is("one alone, there", x.round(0), 0);
        due.is("one alone, far off", x.round(30), 30);
        x.out(0);
        due.is("none", x.round(30), 0);
        HornHouses end = Due.town("house 9 0 30;person 10 0 in 0;" + "person 10 0;".repeat(7));
        due.is("the end alone, from 0", end.round(0), 30);
        due.is("the end alone, there", end.round(30), 0);
        due.is("the end alone, from 29", end.round(29), 1);
        due.is("the start alone, from 1", Due.town("house 9 0 0;person 10 0 in 0;").round(1), 1);
        due.is("as large isn't tight", Due.town("house 9 0 7;person 9 0 in 0;").round(0), 0);
        due.is("tight by 1", Due.town("house 9 0 7;person 10 0 in 0;").round(0), 7);
        due.is("both to one side", Due.town("house 9 0 7;house 9 0 9;person 10 0 in 0;person 10 0 in 1;").round(4), 5);
        due.is("both to the other", Due.town("house 9 0 7;house 9 0 9;person 10 0 in 0;person 10 0 in 1;").round(10), 3);
        due.is("at one place", Due.town("house 9 0 7;house 9 0 7;person 10 0 in 0;person 10 0 in 1;").round(7), 0);
        due.says(28, "IllegalArgumentException: not 0 to 30");
        HornHouses y = Twins.rich();
        due.is("0", Due.thrown(() -> y.round(0)), 0);
        due.is("30", Due.thrown(() -> y.round(30)), 0);
        for (int place : new int[] {-1, 31, Integer.MIN_VALUE, Integer.MAX_VALUE}) {
            due.bad("place " + place, () -> y.round(place));
        }
    }

    // ---- promises 29 to 32: what is seen

    private static void see() {
        due.says(0, "SEEN (at most 8): that a HOUSE is WORN so much (0 to 99) in so many DAYS (0 to 20)");
        HornHouses x = Due.town("house 9 0 0;");
        int[][] right = {{0, 0}, {20, 0}, {0, 99}, {20, 99}, {19, 98}, {1, 1}, {0, 0}, {0, 0}};
        for (int i = 0; i < 8; i++) {
            due.is("seen " + i, x.see(0, right[i][0], right[i][1]), i + 1);
        }
        due.is("a ninth", x.see(0, 0, 0), NONE);
        due.is("eight", x.count(11), 8);
        due.is("refused", x.count(15), 1);
        due.says(29, "SEEN: how much is");
        HornHouses last = Due.town("house 9 0 0;".repeat(8));
        due.is("of the last house", last.see(7, 0, 0), 1);
        due.says(29, "NONE (STATUS 2): there are 8, not 0 to 20, not 0 to 99");
        for (int days : new int[] {-1, 21, Integer.MIN_VALUE, Integer.MAX_VALUE}) {
            Twins.changes(due, "days " + days, 15, y -> y.see(1, days, 0), NONE);
        }
        for (int worn : new int[] {-1, 100, Integer.MIN_VALUE, Integer.MAX_VALUE}) {
            Twins.changes(due, "worn " + worn, 15, y -> y.see(1, 0, worn), NONE);
        }
        Twins.changes(due, "both", 15, y -> y.see(1, 21, 100), NONE);
        Twins.changes(due, "there are 8", AskEdgesTest::full, 15, y -> y.see(0, 1, 1), NONE);
        Twins.changes(due, "there are 8, and all else", AskEdgesTest::full, 15, y -> y.see(0, 21, 100), NONE);
        due.says(29, "NoSuchElementException (ahead): no such HOUSE");
        for (int house : new int[] {3, -1, Integer.MIN_VALUE, Integer.MAX_VALUE}) {
            Twins.leaves(due, "house " + house, y -> Due.thrown(() -> y.see(house, 0, 0)), 1);
            Twins.leaves(due, "house ahead " + house, y -> Due.thrown(() -> y.see(house, 21, 100)), 1);
        }
    }

    /** Eight are seen: of house 0 in 1 day 2, seven times; and in no days 0. */
    private static HornHouses full() {
        HornHouses x = Due.town("house 9 0 0;house 9 0 0;person 9 0 in 0;person 9 0;");
        x.see(0, 0, 0);
        for (int i = 0; i < 7; i++) {
            x.see(0, 1, 2);
        }
        return x;
    }

    private static void forget() {
        due.says(30, "All that is SEEN is forgotten");
        HornHouses x = full();
        due.is("one size does it", x.large(0), 1);
        x.forget();
        due.is("nothing is seen", x.count(11), 0);
        due.is("any size does", x.large(0), 118);
        due.is("so without", x.large(2), 1);
        x.forget();
        due.is("nothing still", x.count(11), 0);
        for (int i = 1; i <= 8; i++) {
            due.is("eight anew", x.see(1, 0, 0), i);
        }
        due.is("no refused call", x.count(15), 0);
        due.is("no act", x.count(10), 0);
    }

    private static void large() {
        due.says(0, "LARGE: PEOPLE and SIZES (1 to 60, another one than one has) by one of which now all SEEN would be"
            + " so: how many; the first (100 by who, and the SIZE); whether it is so without (1)");
        HornHouses all = Due.town("house 9 0 0;person 1 0;person 60 0 in 0;");
        due.is("59 of each", all.large(0), 118);
        due.is("the first: 2, for 1 is one's own", all.large(1), 2);
        due.is("the first of one who isn't 1", Due.town("person 60 0;").large(1), 1);
        HornHouses grown = Due.town("person 60 1;");
        grown.days(1);
        due.is("61 is none of 60", grown.large(0), 60);
        HornHouses most = Due.town("house 1 0 0;person 1 0 in 0;bursts 0;");
        most.see(0, 1, 59);
        due.is("60 alone", most.large(0), 1);
        due.is("60", most.large(1), 60);
        due.is("not without", most.large(2), 0);
        most.forget();
        most.see(0, 1, 60);
        due.is("61 is too large", most.large(0), 0);
        HornHouses least = Due.town("house 1 0 0;person 2 0 in 0;bursts 0;");
        least.see(0, 1, 0);
        due.is("1 alone", least.large(0), 1);
        due.is("1", least.large(1), 1);
        HornHouses own = Due.town("house 1 0 0;person 3 0 in 0;bursts 0;");
        own.see(0, 1, 2);
        due.is("the one that one has", own.large(0), 0);
        due.is("so without", own.large(2), 1);
        HornHouses last = Due.town("house 9 0 0;house 1 0 0;" + "person 9 0;".repeat(7) + "person 1 0 in 1;bursts 0;");
        last.see(1, 1, 59);
        due.is("of the last", last.large(1), 760);
        due.is("one alone", last.large(0), 1);
        HornHouses both = Due.town("house 9 0 0;house 9 0 0;person 9 0 in 0;person 9 0 in 1;");
        both.see(0, 1, 1);
        both.see(1, 1, 1);
        due.is("one size alone must do it", both.large(0), 0);
        HornHouses days = Due.town("house 9 0 0;person 9 1 in 0;bursts 0;");
        days.see(0, 20, 99);
        days.see(0, 0, 0);
        due.is("in 20 days, as one grows", days.large(2), 1);
        due.is("4 comes to 105; 3 to 91, and 1 and 2 to less", days.large(0), 56);
        due.is("the first", days.large(1), 4);
        days.see(0, 3, 6);
        due.is("1 + 2 + 3: 10 alone", days.large(1), 10);
        due.is("one alone", days.large(0), 1);
        HornHouses capped = Due.town("house 1 0 0;person 1 0 in 0;bursts 0;");
        capped.see(0, 2, 99);
        due.is("2 by 50 and more: 51 to 60", capped.large(0), 10);
        due.is("the first", capped.large(1), 51);
        due.says(31, "how many (what 0), the first (1; NONE: none), whether without (2)");
        due.is("none", both.large(1), NONE);
        due.is("nobody", Due.town("house 9 0 0;").large(1), NONE);
        HornHouses empty = Due.town("house 9 0 0;");
        empty.see(0, 20, 0);
        due.is("without anybody it is so", empty.large(2), 1);
        empty.see(0, 20, 1);
        due.is("or isn't", empty.large(2), 0);
        due.says(31, "NoSuchElementException: another what");
        whats("large", 2, (y, what) -> y.large(what));
    }

    private static void next() {
        due.says(0, "THE NEXT SILL: the HOUSE of which WORN in 5 DAYS by these would be most unlike (of like ones the"
            + " least): how many; none without any");
        HornHouses five = Due.town("house 1 0 0;person 60 0 in 0;bursts 0;");
        due.is("0, 5 .. 95 and 99", five.next(1), 21);
        HornHouses worn = Due.town("house 2 0 0;person 6 0 in 0;bursts 0;");
        worn.days(1);
        due.is("4, 9 .. 94 and 99, without 24, which is one's own", worn.next(1), 19);
        due.is("eight people: seven leave it as it is, at 24",
            eightPeople().next(1), 20);
        HornHouses own = Due.town("house 58 0 0;person 60 0 in 0;bursts 0;");
        due.is("0 and 5; 10 is by one's own size", own.next(1), 2);
        HornHouses like = Due.town("house 59 0 0;house 59 0 0;person 1 0 in 1;person 1 0 in 0;");
        due.is("of like ones", like.next(0), 0);
        due.is("0 and 5", like.next(1), 2);
        HornHouses unlike = Due.town("house 59 0 0;house 58 0 0;person 1 0 in 1;person 1 0 in 0;");
        due.is("the most unlike", unlike.next(0), 1);
        due.is("0, 5, 10", unlike.next(1), 3);
        HornHouses fixed = Due.town("house 9 0 0;house 9 0 0;person 12 0;");
        due.is("nobody is in any: all alike", fixed.next(1), 1);
        due.is("the least", fixed.next(0), 0);
        HornHouses one = Due.town("house 9 0 0;house 9 0 0;person 9 0 in 1;");
        one.see(1, 1, 3);
        due.is("one size alone", one.next(1), 1);
        due.is("the least", one.next(0), 0);
        due.says(32, "THE NEXT SILL (what 0; NONE), how many (1; 0: none)");
        one.see(1, 1, 4);
        due.is("without any", one.next(0), NONE);
        due.is("without any, how many", one.next(1), 0);
        due.is("no houses", Due.town("person 9 0;").next(0), NONE);
        due.is("no houses, how many", Due.town("person 9 0;").next(1), 0);
        due.is("nobody", Due.town("house 9 0 0;").next(0), NONE);
        due.is("the last of eight",
            Due.town("house 60 0 0;".repeat(7) + "house 59 0 0;person 1 0 in 7;").next(0), 7);
        due.says(32, "NoSuchElementException: another what");
        whats("next", 1, (y, what) -> y.next(what));
    }

    private static HornHouses eightPeople() {
        HornHouses x = Due.town("house 2 0 0;" + "person 9 0;".repeat(7) + "person 6 0 in 0;bursts 0;");
        x.days(1);
        return x;
    }

    // ---- promises 33 to 35

    private static void byDamp() {
        due.says(0, "BY DAMP: on each of so many DAYS (1 to 5) DAMP is 9 with so many tenths (0 to 10), else 0: how likely"
            + " a HOUSE is BURST behind them: as so many of 10 to the power of these DAYS");
        HornHouses x = Due.town("house 9 0 0;house 9 0 0;person 9 0 in 0;bursts damp=9;");
        int[] chance = {3, 51, 657, 7599, 83193};
        int[] all = {10, 100, 1000, 10000, 100000};
        for (int days = 1; days <= 5; days++) {
            due.is("3 tenths of " + days, x.byDamp(0, days, 3), chance[days - 1]);
            due.is("none of " + days, x.byDamp(0, days, 0), 0);
            due.is("all of " + days, x.byDamp(0, days, 10), all[days - 1]);
            due.is("nobody is in it", x.byDamp(1, days, 10), 0);
        }
        HornHouses dry = Due.town("house 9 0 0;person 9 0 in 0;damp 9;bursts damp=0;");
        due.is("0 else", dry.byDamp(0, 1, 3), 7);
        due.is("neither 0 nor 9", Due.town("house 9 0 0;person 9 0 in 0;bursts 0<damp and damp<9;").byDamp(0, 5, 5), 0);
        due.is("on the fifth", Due.town("house 9 0 0;person 9 0 in 0;bursts day=4 and damp=9;").byDamp(0, 5, 1), 10000);
        due.is("not on the sixth", Due.town("house 9 0 0;person 9 0 in 0;bursts day=5;").byDamp(0, 5, 1), 0);
        HornHouses burst = Due.town("house 9 0 0;person 9 0 in 0;bursts 1;");
        burst.days(1);
        due.is("burst now", burst.byDamp(0, 5, 0), 100000);
        HornHouses let = Due.town("house 9 0 0;person 9 0 in 0;bursts damp=9;");
        let.letIn();
        due.is("damp let in is drawn too", let.byDamp(0, 1, 0), 0);
        due.says(33, "IllegalArgumentException (behind NoSuchElementException): days, tenths");
        for (int days : new int[] {0, 6, -1, Integer.MIN_VALUE, Integer.MAX_VALUE}) {
            due.bad("days " + days, () -> x.byDamp(0, days, 5));
            due.none("house ahead of days " + days, () -> x.byDamp(2, days, 5));
        }
        for (int tenths : new int[] {-1, 11, Integer.MIN_VALUE, Integer.MAX_VALUE}) {
            due.bad("tenths " + tenths, () -> x.byDamp(0, 1, tenths));
            due.none("house ahead of tenths " + tenths, () -> x.byDamp(-1, 1, tenths));
        }
        three("byDamp", (y, h) -> y.byDamp(h, 1, 5));
    }

    private static void game() {
        due.says(0, "who goes alone gains 20, less twice TIGHT, if one would GO IN (were nobody in it), else loses 3; if"
            + " both go, the one who is less TIGHT (of like ones the lesser) has it so, as if alone, the other one"
            + " loses 5; who doesn't go gains 2. A couple RESTS, if neither gains more by the other choice: how many;"
            + " the first (10 by the first one's and the other one's)");
        // Tight 8 gains 4 alone, 9 gains 2 as who doesn't go, 10 gains 0.
        couples("8 and 60", "house 10 0 0;person 18 0;person 60 0;eases 30;", 1, 10);
        couples("9 and 60", "house 10 0 0;person 19 0;person 60 0;eases 30;", 2, 0);
        couples("10 and 60", "house 10 0 0;person 20 0;person 60 0;eases 30;", 1, 0);
        couples("60 and 9", "house 10 0 0;person 60 0;person 19 0;eases 30;", 2, 0);
        couples("60 and 8", "house 10 0 0;person 60 0;person 18 0;eases 30;", 1, 1);
        couples("8 and 8: the lesser", "house 10 0 0;person 18 0;person 18 0;eases 30;", 1, 10);
        couples("8 and 7: the less tight", "house 10 0 0;person 18 0;person 17 0;eases 30;", 1, 1);
        couples("7 and 8: the less tight", "house 10 0 0;person 17 0;person 18 0;eases 30;", 1, 10);
        couples("9 and 9", "house 10 0 0;person 19 0;person 19 0;eases 30;", 3, 0);
        couples("9 and 8", "house 10 0 0;person 19 0;person 18 0;eases 30;", 1, 1);
        couples("8 and 9", "house 10 0 0;person 18 0;person 19 0;eases 30;", 1, 10);
        couples("tight 5 by 5", "house 10 0 0;person 15 0;person 60 0;eases 5;", 1, 10);
        couples("tight 5 by 4", "house 10 0 0;person 15 0;person 60 0;eases 4;", 1, 0);
        // The less tight one has it, though not going in: the other one stays away from losing 5.
        couples("who has it loses 3", "house 10 0 0;person 11 0;person 15 0;eases (heel=15)*5;", 1, 1);
        couples("the lesser has it, smaller ones are alike",
            "house 10 0 0;person 9 0;person 1 0;eases 0;", 1, 10);
        couples("were nobody in it", "house 10 0 0;person 9 0;person 1 0;person 1 0 in 0;eases 0;", 1, 10);
        HornHouses x = Due.town("house 10 0 0;person 18 0;person 18 0;eases 30;");
        due.is("named the other way", x.game(1, 0, 0, 1), 1);
        HornHouses burst = Due.town("house 10 0 0;person 9 0 in 0;person 1 0;bursts 1;");
        burst.days(1);
        due.is("a burst one: none goes", burst.game(0, 1, 0, 1), 0);
        due.is("one couple", burst.game(0, 1, 0, 0), 1);
        due.says(34, "how many couples rest (what 0), the first (1; NONE: none)");
        whats("game", 1, (y, what) -> y.game(0, 1, 0, what));
        due.says(34, "NoSuchElementException: also another what. IllegalArgumentException (behind that): both are one");
        three("house", (y, h) -> y.game(0, 1, h, 0));
        due.bad("both are one", () -> x.game(0, 0, 0, 0));
        due.bad("both are one", () -> x.game(1, 1, 0, 1));
        for (int none : new int[] {2, -1, Integer.MIN_VALUE, Integer.MAX_VALUE}) {
            due.none("person " + none, () -> x.game(none, 0, 0, 0));
            due.none("other " + none, () -> x.game(0, none, 0, 0));
            due.none("both " + none, () -> x.game(none, none, 0, 0));
            due.none("house ahead", () -> x.game(0, 0, none, 0));
            due.none("what ahead", () -> x.game(0, 0, 0, none));
        }
    }

    private static void couples(String what, String text, int many, int first) {
        HornHouses x = Due.town(text);
        due.is(what + ": how many", x.game(0, 1, 0, 0), many);
        due.is(what + ": the first", x.game(0, 1, 0, 1), first);
    }

    private static void years() {
        due.says(0, "YEARS by a seed: n DAYS (0 to 40) from now on");
        for (int seed : new int[] {0, 1, -1, 77, Integer.MIN_VALUE, Integer.MAX_VALUE}) {
            HornHouses x = Due.town(ON_DAY + "39;eases 0-1;");
            due.is("in 0", x.years(seed, 0, 0), 0);
            due.is("in 39", x.years(seed, 39, 0), 0);
            due.is("in 40", x.years(seed, 40, 0), 1);
            due.is("lodge in 39", x.years(seed, 39, 2), 0);
            due.is("lodge in 40", x.years(seed, 40, 2), 1);
            HornHouses sore = Due.town("house 9 0 0;person 11 0 in 0;bursts 0;");
            due.is("blisters of none", sore.years(seed, 0, 1), 0);
            due.is("blisters of 1", sore.years(seed, 1, 1), 2);
            due.is("blisters of 40", sore.years(seed, 40, 1), 80);
            sore.days(3);
            due.is("from now on", sore.years(seed, 1, 1), 8);
        }
        due.says(0, "(Without PEOPLE, or HOUSES, the DRAW of 10 alone.)");
        due.is("no houses", Due.town("person 1 0;person 1 0;").years(3, 40, 2), 2);
        due.is("nobody", Due.town("house 1 0 0;").years(3, 40, 2), 0);
        HornHouses left = Due.town("house 1 0 0;person 9 0 in 0;");
        due.is("nobody anew", Due.tell(left, "house 60 0 0;bursts 1;"), 0);
        due.is("no house bursts", left.years(3, 40, 0), 0);
        due.is("nobody has blisters", left.years(3, 40, 1), 0);
        due.says(35, "NoSuchElementException: another what. IllegalArgumentException (behind that): n");
        whats("years", 2, (y, what) -> y.years(1, 0, what));
        range("years", 0, (y, n) -> y.years(1, n, 0));
        HornHouses x = new HornHouses();
        for (int n : new int[] {-1, 41}) {
            due.none("what ahead", () -> x.years(1, n, 3));
            due.none("what ahead", () -> x.years(1, n, -1));
        }
    }

    /** The draws behind a seed, by arithmetic apart from ints: the row modulo 2 to the 32. */
    private static int[] drawn(int seed, int many) {
        int[] row = new int[many];
        java.math.BigInteger at = java.math.BigInteger.valueOf(seed);
        java.math.BigInteger all = java.math.BigInteger.ONE.shiftLeft(32);
        for (int i = 0; i < many; i++) {
            at = at.multiply(java.math.BigInteger.valueOf(1103515245)).add(java.math.BigInteger.valueOf(12345)).mod(all);
            row[i] = at.shiftRight(16).mod(java.math.BigInteger.valueOf(32768)).intValue();
        }
        return row;
    }

    private static void draws() {
        due.says(0, "DAMP of each is a DRAW of 10; behind that DRAW a DRAW of PEOPLE, a DRAW of HOUSES: if that one LODGES,"
            + " and would GO IN there, and nobody is there, it is PUT IN; then the DAY goes by: how many HOUSES are"
            + " BURST at the end; BLISTERS of all; how many LODGE. A seed becomes itself times 1103515245 and 12345 (an"
            + " int that wraps); a DRAW of n is its bits 16 to 30 MOD n then");
        int[] seeds = {0, 1, 2, 3, 5, 8, 13, -1, -2, -77, 4711, Integer.MIN_VALUE, Integer.MAX_VALUE, 1 << 30};
        for (int seed : seeds) {
            int[] row = drawn(seed, 6);
            for (int damp = 0; damp < 10; damp++) {
                HornHouses wet = Due.town("house 9 0 0;person 9 0 in 0;eases 0;bursts damp=" + damp + ";");
                due.is("damp " + damp + " by " + seed, wet.years(seed, 1, 0), row[0] % 10 == damp ? 1 : 0);
                HornHouses in = Due.town("house 9 0 0;person 10 0;eases damp=" + damp + ";");
                due.is("in by damp " + damp + " of " + seed, in.years(seed, 1, 2), row[0] % 10 == damp ? 0 : 1);
                HornHouses second = Due.town("house 9 0 0;person 9 0 in 0;bursts (day=1)*(damp=" + damp + ");");
                due.is("damp of the second day", second.years(seed, 2, 0), row[3] % 10 == damp ? 1 : 0);
            }
            HornHouses who = Due.town("house 1 0 0;person 2 0;person 3 0;person 5 0;person 9 0;person 17 0;person 33 0;"
                + "person 59 0;eases 30;bursts 0;");
            // Tight 1, 2, 4, 8, 16; 32 and 58 don't go in.
            int person = row[1] % 7;
            due.is("who by " + seed, who.years(seed, 1, 1), person < 5 ? 1 << person : 0);
            due.is("lodge by " + seed, who.years(seed, 1, 2), person < 5 ? 6 : 7);
            HornHouses where = Due.town("house 30 0 0;house 29 0 0;house 27 0 0;house 23 0 0;house 15 0 0;person 31 0;"
                + "eases 15;bursts 0;");
            int house = row[2] % 5;
            due.is("where by " + seed, where.years(seed, 1, 1), house < 4 ? 1 << house : 0);
            HornHouses taken = Due.town("house 9 0 0;house 60 0 0;person 9 0 in 0;person 9 0 in 1;person 9 0;");
            due.is("nobody must be there", taken.years(seed, 40, 2), 1);
            HornHouses inside = Due.town("house 9 0 0;house 9 0 0;person 10 0 in 1;bursts 0;");
            due.is("who is in a house stays", inside.years(seed, 40, 1), 40);
            due.is("nothing changes", inside.count(7) + inside.count(2), 0);
        }
        due.says(35, "YEARS: BURST (what 0), BLISTERS (1), LODGE (2)");
        HornHouses burst = Due.town("house 9 0 0;house 9 0 0;house 9 0 0;person 12 0 in 0;person 11 0 in 1;"
            + "person 60 0;eases 0-1;bursts tight;");
        due.is("two burst", burst.years(9, 1, 0), 2);
        due.is("all lodge", burst.years(9, 1, 2), 3);
        due.is("5 blisters", burst.years(9, 1, 1), 5);
    }

    // ---- promises 36 to 48

    private static void heirs() {
        due.says(0, "HEIRS of a HOUSE: PEOPLE who would GO IN now, were nobody in it, as bits");
        HornHouses x = Due.town("house 10 0 0;house 10 0 0;person 11 0 in 0;person 12 0;person 10 0;person 13 0 in 1;"
            + "eases 2;bursts heel=13;");
        due.is("11, 12, 10, not 13", x.heirs(0), 7);
        due.is("whoever is in it", x.heirs(1), 7);
        x.days(1);
        due.is("none in a burst one", x.heirs(1), 0);
        due.is("still in the other", x.heirs(0), 7);
        due.says(36, "HEIRS, as bits");
        due.is("eight", Due.town("house 9 0 0;" + "person 9 0;".repeat(8)).heirs(0), 255);
        due.is("nobody", Due.town("house 9 0 0;").heirs(0), 0);
        three("heirs", (y, h) -> y.heirs(h));
    }

    private static void toGrow() {
        due.says(0, "TO GROW: in how many DAYS (0 to 40) a PERSON is as large as a HOUSE, or larger; none");
        due.is("larger", Due.town("house 9 0 0;person 10 0;").toGrow(0, 0), 0);
        due.is("as large", Due.town("house 9 0 0;person 9 0;").toGrow(0, 0), 0);
        due.is("1 less", Due.town("house 9 0 0;person 8 1;").toGrow(0, 0), 1);
        due.is("1 less by 9", Due.town("house 9 0 0;person 8 9;").toGrow(0, 0), 1);
        due.is("10 less by 9", Due.town("house 20 0 0;person 10 9;").toGrow(0, 0), 2);
        due.is("9 less by 9", Due.town("house 19 0 0;person 10 9;").toGrow(0, 0), 1);
        due.is("39 less", Due.town("house 41 0 0;person 2 1;").toGrow(0, 0), 39);
        due.is("40 less", Due.town("house 42 0 0;person 2 1;").toGrow(0, 0), 40);
        due.is("41 less", Due.town("house 43 0 0;person 2 1;").toGrow(0, 0), NONE);
        due.says(37, "TO GROW; NONE: none");
        due.is("grows not", Due.town("house 9 0 0;person 8 0;").toGrow(0, 0), NONE);
        three("person", (y, p) -> y.toGrow(p, 0));
        three("house", (y, h) -> y.toGrow(0, h));
    }

    private static void paid() {
        due.says(0, "PAID: BLISTERS of all in so many DAYS (0 to 40), less those of now");
        HornHouses x = Due.town("house 9 0 0;house 9 0 0;person 10 0 in 0;person 11 0 in 1;person 60 0;");
        due.is("in 0", x.paid(0), 0);
        due.is("in 1", x.paid(1), 3);
        due.is("in 39", x.paid(39), 117);
        due.is("in 40", x.paid(40), 120);
        x.days(20);
        due.is("less those of now", x.paid(1), 3);
        HornHouses most = Due.town("house 1 0 0;person 38 0 in 0;bursts 0;");
        most.days(20);
        most.days(6);
        due.is("37 more", most.paid(40), 37);
        most.days(1);
        due.is("999: no more", most.paid(40), 0);
        due.says(38, "IllegalArgumentException: not 0 to 40");
        range("paid", 0, (y, days) -> y.paid(days));
    }

    private static void wornest() {
        due.says(0, "WORNEST in so many DAYS (0 to 40): the HOUSE that is most WORN (of like ones the least); none");
        String two = "house 10 0 0;house 49 0 0;person 12 0 in 0;person 10 2 in 1;bursts 0;";
        HornHouses x = Due.town(two);
        due.is("now all alike", x.wornest(0), 0);
        due.is("house 1 is worn later", x.wornest(24), 0);
        HornHouses like = Due.town("house 9 0 0;house 9 0 0;house 9 0 0;person 10 0 in 2;person 10 0 in 1;");
        due.is("of like ones", like.wornest(1), 1);
        HornHouses late = Due.town("house 60 0 0;house 39 0 0;person 1 1 in 1;");
        due.is("in 39", late.wornest(39), 0);
        due.is("in 40", late.wornest(40), 1);
        due.says(39, "WORNEST; NONE: no HOUSES");
        due.is("no houses", Due.town("person 9 0;").wornest(0), NONE);
        due.is("the last of eight", Due.town("house 9 0 0;".repeat(8) + "person 10 0 in 7;").wornest(1), 7);
        due.says(39, "IllegalArgumentException: not 0 to 40");
        range("wornest", 0, (y, days) -> y.wornest(days));
    }

    private static void dampest() {
        due.says(0, "THE DAMPEST DAY of so many (1 to 40): that with most DAMP (of like ones the first; 0 is this one)");
        HornHouses x = Due.town("damp 0 1 2 3 4 5 6 7;");
        for (int days = 1; days <= 9; days++) {
            due.is("of " + days, x.dampest(days), Math.min(7, days - 1));
        }
        due.is("of 40", x.dampest(40), 7);
        x.days(7);
        due.is("this one of 40", x.dampest(40), 0);
        x.days(1);
        due.is("from day 8", x.dampest(8), 7);
        due.is("from day 8 of 7", x.dampest(7), 6);
        due.is("like ones", Due.town("damp 2 5 5;").dampest(40), 1);
        due.is("all alike", Due.town("damp 5 5;").dampest(40), 0);
        HornHouses let = Due.town("damp 0 9;");
        due.is("9 on the next", let.dampest(2), 1);
        let.letIn();
        due.is("let in, and 9 on the next", let.dampest(2), 0);
        HornHouses days = Due.town("damp 0 5 6;");
        days.letIn();
        days.days(1);
        due.is("let in on a day that is over", days.dampest(3), 1);
        due.says(40, "IllegalArgumentException: not 1 to 40");
        range("dampest", 1, (y, many) -> y.dampest(many));
    }

    private static void kept() {
        due.says(0, "KEPT in so many DAYS (0 to 40): PEOPLE who are in the HOUSE in which they are now, as bits");
        HornHouses x = Due.town("house 9 0 0;house 9 1 0;person 9 0 in 1;person 9 0;person 9 0 in 0;"
            + "bursts (day=39)*(give=1);");
        due.is("now", x.kept(0), 5);
        due.is("in 39", x.kept(39), 5);
        due.is("in 40", x.kept(40), 4);
        due.is("eight", Due.town("house 9 0 0;".repeat(8) + "person 9 0 in 0;person 9 0 in 1;person 9 0 in 2;"
            + "person 9 0 in 3;person 9 0 in 4;person 9 0 in 5;person 9 0 in 6;person 9 0 in 7;").kept(40), 255);
        due.is("who lodges is in none", Due.town("person 9 0;").kept(0), 0);
        due.says(41, "IllegalArgumentException: not 0 to 40");
        range("kept", 0, (y, days) -> y.kept(days));
    }

    private static void sorest() {
        due.says(0, "SOREST in so many DAYS (0 to 40): who has most BLISTERS (of like ones the least); none");
        HornHouses like = Due.town("house 9 0 0;house 9 0 0;person 9 0;person 10 0 in 1;person 10 0 in 0;");
        due.is("now all alike", like.sorest(0), 0);
        due.is("of like ones", like.sorest(1), 1);
        HornHouses late = Due.town("house 39 0 0;person 1 0;person 1 1 in 0;");
        due.is("in 39", late.sorest(39), 0);
        due.is("in 40", late.sorest(40), 1);
        due.says(42, "SOREST; NONE: nobody");
        due.is("nobody", Due.town("house 9 0 0;").sorest(0), NONE);
        due.is("the last of eight", Due.town("house 9 0 0;" + "person 9 0;".repeat(7) + "person 10 0 in 0;").sorest(1), 7);
        due.says(42, "IllegalArgumentException: not 0 to 40");
        range("sorest", 0, (y, days) -> y.sorest(days));
    }

    private static void eased() {
        due.says(0, "EASED for a PERSON and a HOUSE: the DAY of so many (1 to 40) on which EASES gives most (SIZES, WORN as"
            + " they are then; of like ones the first; 0 is this one)");
        String one = "house 9 0 0;person 9 1 in 0;bursts 0;eases ";
        HornHouses last = Due.town(one + "day=39;");
        due.is("the 40th", last.eased(0, 0, 40), 39);
        due.is("of 39", last.eased(0, 0, 39), 0);
        HornHouses day = Due.town(one + "day;");
        due.is("of 1", day.eased(0, 0, 1), 0);
        due.is("of 2", day.eased(0, 0, 2), 1);
        due.is("of 31", day.eased(0, 0, 31), 30);
        due.is("all alike", Due.town(one + "5;").eased(0, 0, 40), 0);
        due.is("none at all", Due.town(one + "0;").eased(0, 0, 40), 0);
        due.is("like ones", Due.town(one + "day=3 or day=5;").eased(0, 0, 40), 3);
        due.is("heel then", Due.town(one + "heel=14;").eased(0, 0, 40), 5);
        due.is("worn then: 0, 0, 1, 3, 6", Due.town(one + "worn=6;").eased(0, 0, 40), 4);
        due.is("damp then", Due.town("house 9 0 0;person 9 0;damp 3 4 9 9;").eased(0, 0, 40), 2);
        HornHouses from = Due.town(one + "day=5;");
        from.days(5);
        due.is("this one", from.eased(0, 0, 40), 0);
        due.says(43, "IllegalArgumentException (behind NoSuchElementException): not 1 to 40");
        range("eased", 1, (y, days) -> y.eased(0, 0, days));
        three("person", (y, p) -> y.eased(p, 0, 1));
        three("house", (y, h) -> y.eased(0, h, 1));
        for (int days : new int[] {0, 41}) {
            due.none("person ahead", () -> day.eased(1, 0, days));
            due.none("house ahead", () -> day.eased(0, 1, days));
        }
    }

    private static void free() {
        due.says(0, "FREE for a PERSON: the HOUSE in which nobody is, and one would GO IN now, by least TIGHT (of like ones"
            + " the least); none");
        due.is("least tight", Due.town("house 9 0 0;house 10 0 0;person 11 0;eases 2;").free(0), 1);
        due.is("like ones", Due.town("house 9 0 0;house 10 0 0;house 10 0 0;person 11 0;eases 2;").free(0), 1);
        due.is("larger ones are alike", Due.town("house 60 0 0;house 11 0 0;person 11 0;eases 2;").free(0), 0);
        due.is("tight 2 by 2", Due.town("house 9 0 0;person 11 0;eases 2;").free(0), 0);
        due.is("tight 2 by 1", Due.town("house 9 0 0;person 11 0;eases 1;").free(0), NONE);
        due.is("tight 30", Due.town("house 9 0 0;person 39 0;eases 30;").free(0), 0);
        due.is("tight 31", Due.town("house 9 0 0;person 40 0;eases 31;").free(0), NONE);
        due.is("somebody is there", Due.town("house 9 0 0;house 9 0 0;person 9 0;person 9 0 in 0;").free(0), 1);
        due.is("not one's own", Due.town("house 9 0 0;house 9 0 0;person 9 0 in 0;").free(0), 1);
        due.says(44, "FREE; NONE: none");
        due.is("one's own alone", Due.town("house 9 0 0;person 9 0 in 0;").free(0), NONE);
        due.is("no houses", Due.town("person 9 0;").free(0), NONE);
        HornHouses burst = Due.town("house 9 0 0;person 9 0 in 0;person 9 0;bursts 1;");
        burst.days(1);
        due.is("a burst one", burst.free(1), NONE);
        three("free", (y, p) -> y.free(p));
    }

    private static void larger() {
        due.says(0, "LARGER: how many PEOPLE are larger than one");
        HornHouses x = Due.town("person 9 0;person 10 0;person 9 0;person 8 0;person 60 0;");
        int[] want = {2, 1, 2, 4, 0};
        for (int p = 0; p < 5; p++) {
            due.is("than " + p, x.larger(p), want[p]);
        }
        due.says(45, "LARGER");
        due.is("seven", Due.town("person 1 0;" + "person 2 0;".repeat(7)).larger(0), 7);
        due.is("one alone", Due.town("person 1 0;").larger(0), 0);
        three("larger", (y, p) -> y.larger(p));
    }

    private static void wide() {
        due.says(0, "WIDE: HOUSES that aren't BURST, and have a SIZE of so much (1 to 60), or more, as bits");
        HornHouses x = Due.town("house 9 0 0;house 10 0 0;house 11 0 0;house 60 0 0;house 1 0 0;person 10 0 in 2;bursts 1;");
        due.is("1", x.wide(1), 31);
        due.is("2", x.wide(2), 15);
        due.is("9", x.wide(9), 15);
        due.is("10", x.wide(10), 14);
        due.is("11", x.wide(11), 12);
        due.is("12", x.wide(12), 8);
        due.is("60", x.wide(60), 8);
        x.days(1);
        due.is("not the burst one", x.wide(11), 8);
        x.stuff(3, 1);
        due.is("59 now", x.wide(60), 0);
        due.is("eight", Due.town("house 1 0 0;".repeat(8)).wide(1), 255);
        due.says(46, "IllegalArgumentException: not 1 to 60");
        due.is("1", Due.thrown(() -> x.wide(1)), 0);
        due.is("60", Due.thrown(() -> x.wide(60)), 0);
        for (int size : new int[] {0, 61, -1, Integer.MIN_VALUE, Integer.MAX_VALUE}) {
            due.bad("size " + size, () -> x.wide(size));
        }
    }

    private static void endures() {
        due.says(0, "ENDURES: were a PERSON in a HOUSE now (who is in it LODGING, one's own HOUSE left; whether one GOES IN"
            + " doesn't count): in how many DAYS (1 to 40) it is BURST, if only these go by; none (also if it is BURST"
            + " now)");
        String one = "house 9 0 0;person 9 0;bursts day=";
        due.is("in 1", Due.town(one + "0;").endures(0, 0), 1);
        due.is("in 39", Due.town(one + "38;").endures(0, 0), 39);
        due.is("in 40", Due.town(one + "39;").endures(0, 0), 40);
        due.is("in 41", Due.town(one + "40;").endures(0, 0), NONE);
        HornHouses two = Due.town("house 9 0 0;house 9 0 0;person 10 0 in 0;person 60 0 in 1;eases 0;bursts worn-3;");
        due.is("one's own: 1, 2, 3, 4", two.endures(0, 0), 4);
        due.is("who was in it lodges", two.endures(0, 1), 4);
        due.is("whether one goes in doesn't count", two.endures(1, 0), 1);
        due.is("nothing changes", two.house(0, 4), 0);
        due.is("nothing changes", two.house(1, 4), 1);
        two.days(1);
        due.is("burst now", two.endures(0, 1), NONE);
        due.is("worn 1 now: 2, 3, 4", two.endures(0, 0), 3);
        due.is("who lodges by a burst house", two.endures(1, 0), 1);
        due.says(47, "ENDURES; NONE: none");
        due.is("never", Due.town("house 9 0 0;person 9 0;").endures(0, 0), NONE);
        three("person", (y, p) -> y.endures(p, 0));
        three("house", (y, h) -> y.endures(0, h));
    }

    private static void ringed() {
        due.says(0, "RINGED with one: in A TRADE, how many stand in one's ring (one alone: 1); 0, if one LODGES");
        HornHouses x = Due.town("house 10 0 0;house 20 0 0;house 30 0 0;house 40 0 0;house 50 0 0;house 60 0 0;"
            + "person 20 0 in 0;person 10 0 in 1;person 40 0 in 2;person 50 0 in 3;person 30 0 in 4;"
            + "person 60 0 in 5;person 9 0;");
        int[] want = {2, 2, 3, 3, 3, 1, 0};
        for (int p = 0; p < want.length; p++) {
            due.is("with " + p, x.ringed(p), want[p]);
        }
        HornHouses rest = Due.town("house 10 0 0;house 20 0 0;house 30 0 0;"
            + "person 10 0 in 0;person 11 0 in 1;person 12 0 in 2;");
        for (int p = 0; p < 3; p++) {
            due.is("each alone in the end: " + p, rest.ringed(p), 1);
        }
        due.says(48, "RINGED: how many");
        due.is("lodges", Due.town("person 9 0;").ringed(0), 0);
        HornHouses again = Due.town("house 10 0 0;house 20 0 0;person 20 0 in 0;person 10 0 in 1;");
        due.is("both", again.ringed(0), 2);
        again.out(0);
        due.is("lodges now", again.ringed(0), 0);
        due.is("alone now", again.ringed(1), 1);
        HornHouses eight = Due.town("house 1 0 0;house 2 0 0;house 3 0 0;house 4 0 0;house 5 0 0;house 6 0 0;house 7 0 0;"
            + "house 8 0 0;person 2 0 in 0;person 3 0 in 1;person 4 0 in 2;person 5 0 in 3;person 6 0 in 4;person 7 0 in 5;"
            + "person 8 0 in 6;person 1 0 in 7;");
        due.is("eight: the first", eight.ringed(0), 8);
        due.is("eight: the last", eight.ringed(7), 8);
        three("ringed", (y, p) -> y.ringed(p));
    }
}
