/**
 * What is, and the acts: a test for each sentence of parts 2 and 5 of 'Terms' and of promises 1, 5 to 15,
 * 49 and 50 that names a boundary: the last inside, the first outside, and that a refused call changes
 * nothing but its count.
 */
public final class ActEdgesTest {
    private static final Due due = new Due();
    private static final int NONE = HornHouses.NONE;

    public static void main(String[] args) {
        newObject();
        atFirst();
        tight();
        goesIn();
        keptToThirty();
        withoutEases();
        notBurstNorTaken();
        wornAtMost();
        blistersAtMost();
        burstsByRule();
        burstsWithoutRule();
        oneLodgesThen();
        growsAtMost();
        dayIsOneMore();
        dampOfThatDay();
        actsAtMost();
        actsOfAllKinds();
        lastOfEight();
        counts();
        tightest();
        needed();
        status();
        houseAnswers();
        room();
        nextDoor();
        personAnswers();
        easesAnswers();
        days();
        lastDay();
        putIn();
        out();
        stuff();
        change();
        letIn();
        undo();
        image();
        restore();
        due.end("ActEdgesTest");
    }

    /** One who lodges and is asked to go in; the answer of putIn. */
    private static int enters(String text) {
        return Due.town(text).putIn(0, 0);
    }

    // ---- promise 1

    private static void newObject() {
        due.says(0, "The constants: `NONE = -1`: There is none; one LODGES; nobody");
        due.is("NONE", HornHouses.NONE, -1);
        due.says(1, "No HOUSES, nobody");
        HornHouses x = new HornHouses();
        int[] counts = {0, 0, 0, 3, 0, 0, 0, 0, NONE, 0, 0, 0, 0, 0, 0, 0};
        for (int what = 0; what < counts.length; what++) {
            due.is("count " + what, x.count(what), counts[what]);
        }
        due.none("no house", () -> x.house(0, 0));
        due.none("nobody", () -> x.person(0, 0));
        due.none("nobody to put in", () -> x.putIn(0, 0));
        due.none("nobody to let out", () -> x.out(0));
        due.none("nothing to stuff", () -> x.stuff(0, 1));
        due.none("nobody to change", () -> x.change(0, 1) ? 1 : 0);
        due.none("nothing to see", () -> x.see(0, 0, 0));
        due.is("no fault", x.fault(), NONE);
        due.is("no act", x.undo(), NONE);
        due.is("no image", x.restore(), false);
        due.is("no refused call", x.count(13) + x.count(14) + x.count(15), 0);
        int[] asked = {x.barefoot(40), x.match(0), x.match(1), x.round(30), x.paid(40), x.dampest(40),
            x.kept(40), x.wide(1), x.large(0), x.next(1), x.years(1, 40, 0), x.years(1, 40, 1), x.years(1, 40, 2)};
        for (int i = 0; i < asked.length; i++) {
            due.is("asked " + i, asked[i], 0);
        }
        int[] none = {x.last(0), x.last(1), x.large(1), x.next(0), x.wornest(40), x.sorest(40)};
        for (int i = 0; i < none.length; i++) {
            due.is("none " + i, none[i], NONE);
        }
        due.is("nothing seen is so", x.large(2), 1);
        due.is("days go by", x.days(20), 20);
        due.is("damp is let in", x.letIn(), 3);
        due.is("two acts", x.count(10), 2);
    }

    // ---- part 2

    private static void atFirst() {
        due.says(0, "The DAY is 0; nothing is WORN, no HOUSE is BURST, nobody has BLISTERS");
        String text = "house 9 0 0;house 9 0 0;person 12 0 in 0;person 40 1 in 1;";
        HornHouses x = Due.town(text);
        for (int i = 0; i < 2; i++) {
            due.is("the day", x.count(2), 0);
            due.is("not worn", x.house(0, 3) + x.house(1, 3), 0);
            due.is("not burst", x.count(4), 0);
            due.is("no blisters", x.count(7), 0);
            due.is("sizes", x.person(1, 0), 40);
            due.is("both are in", x.count(5), 3);
            x.days(3);
            due.is("burst then", x.count(4), 2);
            due.is("worn then", x.house(0, 3), 9);
            due.is("the same town again", Due.tell(x, text), 0);
        }
    }

    private static void tight() {
        due.says(0, "TIGHT is by how much a PERSON is larger than a HOUSE (0, if not)");
        HornHouses x = Due.town("house 9 0 0;house 9 0 0;house 9 0 0;house 1 0 0;"
            + "person 10 0 in 0;person 9 0 in 1;person 8 0 in 2;person 60 0 in 3;");
        due.is("1 larger", x.person(0, 4), 1);
        due.is("as large", x.person(1, 4), 0);
        due.is("smaller", x.person(2, 4), 0);
        due.is("the most at first", x.person(3, 4), 59);
    }

    private static void goesIn() {
        due.says(0, "One GOES IN (with the horn), if TIGHT is what EASES gives, or less");
        due.is("less", enters("house 10 0 0;person 14 0;eases 5;"), 4);
        due.is("as much", enters("house 10 0 0;person 15 0;eases 5;"), 5);
        due.is("more", enters("house 10 0 0;person 16 0;eases 5;"), NONE);
        due.is("as large", enters("house 10 0 0;person 10 0;eases 0;"), 0);
        due.is("1 larger", enters("house 10 0 0;person 11 0;eases 0;"), NONE);
        due.is("smaller", enters("house 10 0 0;person 1 0;eases 0;"), 0);
    }

    private static void keptToThirty() {
        due.says(0, "kept to 0 to 30");
        due.is("29: tight 29", enters("house 10 0 0;person 39 0;eases 29;"), 29);
        due.is("29: tight 30", enters("house 10 0 0;person 40 0;eases 29;"), NONE);
        for (String much : new String[] {"30", "31", "9999", "8192*8192*32-1"}) {
            due.is(much + ": tight 30", enters("house 10 0 0;person 40 0;eases " + much + ";"), 30);
            due.is(much + ": tight 31", enters("house 10 0 0;person 41 0;eases " + much + ";"), NONE);
        }
        for (String little : new String[] {"0", "0-1", "0-9999", "8192*8192*32"}) {
            due.is(little + ": tight 0", enters("house 10 0 0;person 10 0;eases " + little + ";"), 0);
            due.is(little + ": tight 1", enters("house 10 0 0;person 11 0;eases " + little + ";"), NONE);
        }
    }

    private static void withoutEases() {
        due.says(0, "(without it GIVE, DAMP, and WORN by 10, cut down)");
        due.is("give 2, damp 3: tight 5", enters("house 10 2 0;person 15 0;"), 5);
        due.is("give 2, damp 3: tight 6", enters("house 10 2 0;person 16 0;"), NONE);
        due.is("give 9, damp 9: tight 18", enters("house 10 9 0;person 28 0;damp 9;"), 18);
        due.is("give 9, damp 9: tight 19", enters("house 10 9 0;person 29 0;damp 9;"), NONE);
        due.is("nothing: tight 0", enters("house 10 0 0;person 10 0;damp 0;"), 0);
        due.is("nothing: tight 1", enters("house 10 0 0;person 11 0;damp 0;"), NONE);
        int[] worn = {9, 10, 19, 20, 29, 30, 49};
        for (int w : worn) {
            HornHouses x = Due.town("house 10 0 0;person " + (10 + w) + " 0 in 0;damp 0;bursts 0;");
            x.days(1);
            due.is("worn so", x.house(0, 3), w);
            due.is("worn " + w + " by 10", x.eases(0, 0), w / 10);
        }
        HornHouses all = Due.town("house 1 9 0;person 60 0 in 0;damp 9;bursts 0;");
        all.days(2);
        due.is("99 by 10, and 18", all.eases(0, 0), 27);
    }

    private static void notBurstNorTaken() {
        due.says(0, "not in a HOUSE that is BURST, nor where somebody is");
        HornHouses x = Due.town("house 10 0 0;house 10 0 0;person 1 0;person 1 0 in 0;bursts day=1;");
        due.is("somebody is there", x.putIn(0, 0), NONE);
        due.is("nobody is", x.putIn(0, 1), 0);
        x.out(0);
        x.days(2);
        due.is("burst, and nobody is there", x.house(0, 4), NONE);
        due.is("not in it", x.putIn(0, 0), NONE);
        due.is("nor another one", x.putIn(1, 0), NONE);
        due.is("the whole one", x.putIn(0, 1), 0);
    }

    private static void wornAtMost() {
        due.says(0, "WORN is TIGHT more (99 at most)");
        HornHouses x = Due.town("house 1 0 0;house 1 0 0;house 9 0 0;house 9 0 0;person 50 0 in 0;"
            + "person 34 0 in 1;person 9 0 in 2;person 10 0 in 3;bursts 0;");
        int[][] want = {{49, 33, 0, 1}, {98, 66, 0, 2}, {99, 99, 0, 3}, {99, 99, 0, 4}};
        for (int[] row : want) {
            x.days(1);
            for (int h = 0; h < 4; h++) {
                due.is("day " + x.count(2) + ", house " + h, x.house(h, 3), row[h]);
            }
        }
    }

    private static void blistersAtMost() {
        due.says(0, "BLISTERS of that one TIGHT more (999 at most)");
        HornHouses x = Due.town("house 1 0 0;house 1 0 0;house 9 0 0;person 38 0 in 0;person 41 0 in 1;"
            + "person 9 0 in 2;bursts 0;");
        x.days(20);
        x.days(4);
        due.is("24 by 37", x.person(0, 3), 888);
        due.is("24 by 40", x.person(1, 3), 960);
        x.days(1);
        due.is("1000 is too much", x.person(1, 3), 999);
        x.days(1);
        due.is("26 by 37", x.person(0, 3), 962);
        x.days(1);
        due.is("27 by 37", x.person(0, 3), 999);
        x.days(1);
        due.is("999 at most", x.person(0, 3), 999);
        due.is("of all", x.count(7), 1998);
        due.is("not tight", x.person(2, 3), 0);
    }

    private static void burstsByRule() {
        due.says(0, "if BURSTS gives more than 0 then");
        due.is("0", Due.town("house 1 0 0;person 60 0 in 0;bursts 0;").burst(0), NONE);
        due.is("1", Due.town("house 1 0 0;person 1 0 in 0;bursts 1;").burst(0), 1);
        due.is("below 0", Due.town("house 1 0 0;person 60 0 in 0;bursts 0-1;").burst(0), NONE);
        due.is("2", Due.town("house 1 0 0;person 1 0 in 0;bursts 2;").burst(0), 1);
        due.is("the largest", Due.town("house 1 0 0;person 1 0 in 0;bursts 8192*8192*32-1;").burst(0), 1);
        due.is("wraps below 0", Due.town("house 1 0 0;person 1 0 in 0;bursts 8192*8192*32;").burst(0), NONE);
        due.is("worn with that day's: 5, 10", Due.town("house 1 0 0;person 6 0 in 0;bursts worn-9;").burst(0), 2);
        due.is("worn with that day's: 5, 10, 15",
            Due.town("house 1 0 0;person 6 0 in 0;bursts worn-10;").burst(0), 3);
        due.is("the day ahead of the next", Due.town("house 1 0 0;person 1 0 in 0;bursts day=0;").burst(0), 1);
        due.is("the size ahead of growing", Due.town("house 1 0 0;person 1 9 in 0;bursts heel=10;").burst(0), 2);
        due.is("nobody is in it", Due.town("house 1 0 0;person 1 0;bursts 1;").burst(0), NONE);
    }

    private static void burstsWithoutRule() {
        due.says(0, "(without it: if TIGHT is more than 9 and GIVE together)");
        for (int give = 0; give <= 9; give++) {
            String house = "house 10 " + give + " 0;person ";
            due.is("as much: " + give, Due.town(house + (19 + give) + " 0 in 0;").burst(0), NONE);
            due.is("more: " + give, Due.town(house + (20 + give) + " 0 in 0;").burst(0), 1);
        }
    }

    private static void oneLodgesThen() {
        due.says(0, "the HOUSE is BURST: that one LODGES");
        HornHouses x = Due.town("house 9 0 0;house 9 0 0;person 9 0 in 1;person 19 3 in 0;");
        x.days(1);
        due.is("burst", x.house(0, 5), 1);
        due.is("the other isn't", x.house(1, 5), 0);
        due.is("nobody is in it", x.house(0, 4), NONE);
        due.is("lodges", x.person(1, 2), NONE);
        due.is("not the other", x.person(0, 2), 1);
        due.is("worn by that day", x.house(0, 3), 10);
        due.is("blisters by that day", x.person(1, 3), 10);
        due.is("grows still", x.person(1, 0), 22);
        x.days(5);
        due.is("worn no more", x.house(0, 3), 10);
        due.is("no more blisters", x.person(1, 3), 10);
        due.is("stays burst", x.house(0, 5), 1);
    }

    private static void growsAtMost() {
        due.says(0, "Then each PERSON is GROWS larger (99 at most)");
        HornHouses x = Due.town("house 60 0 0;person 54 9;person 55 9 in 0;person 60 0;person 1 1;");
        x.days(4);
        due.is("54 and 4 by 9", x.person(0, 0), 90);
        due.is("55 and 4 by 9", x.person(1, 0), 91);
        x.days(1);
        due.is("99", x.person(0, 0), 99);
        due.is("100 is too much", x.person(1, 0), 99);
        due.is("grows not", x.person(2, 0), 60);
        due.is("grows by 1", x.person(3, 0), 6);
        x.days(1);
        due.is("99 still", x.person(0, 0), 99);
        due.is("99 still, in a house", x.person(1, 0), 99);
    }

    private static void dayIsOneMore() {
        due.says(0, "The DAY is one more then");
        HornHouses x = Due.town("house 1 0 0;person 1 0 in 0;eases day;");
        due.is("0", x.eases(0, 0), 0);
        due.is("1", x.days(1), 1);
        due.is("rules know it", x.eases(0, 0), 1);
        due.is("3 more", x.days(3), 4);
        due.is("count", x.count(2), 4);
    }

    private static void dampOfThatDay() {
        due.says(0, "(DAMP let in counts for that DAY alone.)");
        HornHouses x = Due.town("house 1 0 0;house 1 0 0;person 1 0 in 0;person 1 0;damp 0;bursts damp=9;");
        x.letIn();
        due.is("bursts on this day", x.burst(0), 1);
        x.out(0);
        x.days(1);
        due.is("put in on the next", x.putIn(0, 0), 0);
        due.is("dry on the next", x.count(3), 0);
        due.is("doesn't burst then", x.burst(0), NONE);
        HornHouses y = Due.town("house 1 0 0;person 1 0 in 0;damp 0;bursts (damp=9)*(day=1);");
        y.letIn();
        due.is("nor asked ahead", y.burst(0), NONE);
        due.is("nor asked ahead of one put in", y.endures(0, 0), NONE);
        due.is("nor asked of the house then", y.then(0, 2, 1), 0);
        due.is("not on the second of two days", y.days(2), 2);
        due.is("it stands", y.house(0, 5), 0);
    }

    private static void actsAtMost() {
        due.says(0, "ACTS (at most 40 are kept, the latest ones)");
        for (int many : new int[] {39, 40, 41, 80, 81, 99}) {
            HornHouses x = new HornHouses();
            for (int i = 0; i < many; i++) {
                x.days(1);
            }
            int kept = Math.min(40, many);
            due.is("kept of " + many, x.count(10), kept);
            for (int i = kept - 1; i >= 0; i--) {
                due.is("left", x.undo(), i);
            }
            due.is("the first are gone", x.count(2), many - kept);
            due.is("none is left", x.undo(), NONE);
            due.is("nothing changes then", x.count(2), many - kept);
        }
        HornHouses y = new HornHouses();
        for (int i = 0; i < 45; i++) {
            y.days(1);
        }
        y.undo();
        y.undo();
        y.days(2);
        due.is("one more behind two undone", y.count(10), 39);
        y.days(2);
        y.days(2);
        due.is("40 at most", y.count(10), 40);
        for (int i = 0; i < 40; i++) {
            y.undo();
        }
        due.is("six are gone", y.count(2), 6);
    }

    private static void actsOfAllKinds() {
        due.says(0, "They are UNDONE, the last one first");
        HornHouses x = Due.town("house 9 0 0;house 9 0 0;person 9 0 in 0;person 9 0;");
        due.is("put in", x.putIn(1, 1), 0);
        due.is("change", x.change(0, 1), true);
        due.is("out", x.out(0), 1);
        due.is("stuff", x.stuff(1, 8), 1);
        due.is("let in", x.letIn(), 3);
        due.is("days", x.days(20), 20);
        due.is("six acts", x.count(10), 6);
        due.is("days", x.undo(), 5);
        due.is("day 0, damp let in", x.count(2) * 100 + x.count(3), 9);
        due.is("let in", x.undo(), 4);
        due.is("damp as it was", x.count(3), 3);
        due.is("stuff", x.undo(), 3);
        due.is("size", x.house(1, 0), 9);
        due.is("out", x.undo(), 2);
        due.is("in 1 again", x.person(0, 2), 1);
        due.is("change", x.undo(), 1);
        due.is("0 in 0", x.person(0, 2), 0);
        due.is("1 in 1", x.person(1, 2), 1);
        due.is("put in", x.undo(), 0);
        due.is("1 lodges", x.person(1, 2), NONE);
        due.is("nobody in 1", x.house(1, 4), NONE);
    }

    /** Whatever is kept, or tried, is kept of the last of eight too. */
    private static void lastOfEight() {
        due.says(0, "ACTS (at most 40 are kept, the latest ones)");
        HornHouses x = Due.town("house 9 0 0;".repeat(7) + "house 20 9 0;" + "person 9 0;".repeat(7)
            + "person 23 1 in 7;");
        x.days(1);
        x.image();
        due.is("worn in 2", x.worn(7, 2), 3 + 4 + 5);
        due.is("blisters in 2", x.then(7, 2, 2), 12);
        due.is("size in 2", x.then(7, 2, 0), 26);
        due.is("nothing changes", x.house(7, 3), 3);
        x.days(1);
        x.out(7);
        x.stuff(7, 5);
        due.is("stuffed", x.house(7, 0), 15);
        x.undo();
        due.is("not stuffed", x.house(7, 0), 20);
        x.undo();
        due.is("in 7 again", x.person(7, 2), 7);
        due.is("by whom", x.house(7, 4), 7);
        due.is("worn", x.house(7, 3), 7);
        x.undo();
        due.is("worn a day less", x.house(7, 3), 3);
        due.is("blisters a day less", x.person(7, 3), 3);
        due.is("size a day less", x.person(7, 0), 24);
        x.days(10);
        x.out(7);
        x.stuff(7, 1);
        x.restore();
        due.is("size of the house", x.house(7, 0), 20);
        due.is("worn by the image", x.house(7, 3), 3);
        due.is("blisters by the image", x.person(7, 3), 3);
        due.is("size by the image", x.person(7, 0), 24);
        due.is("house by the image", x.person(7, 2), 7);
    }

    // ---- promise 5

    private static void counts() {
        due.says(5, "4 HOUSES that are BURST, 5 in which somebody is, 6 PEOPLE who LODGE (bits)");
        HornHouses x = Due.town("house 9 0 0;".repeat(8) + "person 9 0 in 7;person 9 0 in 6;person 9 0 in 5;"
            + "person 9 0 in 4;person 9 0 in 3;person 9 0 in 2;person 9 0 in 1;person 9 0;bursts day=1;");
        due.is("none is burst", x.count(4), 0);
        due.is("all but 0", x.count(5), 254);
        due.is("7 alone", x.count(6), 128);
        x.putIn(7, 0);
        due.is("all", x.count(5), 255);
        due.is("nobody lodges", x.count(6), 0);
        x.out(1);
        x.days(2);
        due.is("all but 6 are burst", x.count(4), 255 - 64);
        due.is("nobody is in any", x.count(5), 0);
        due.is("all lodge", x.count(6), 255);
        due.says(5, "7 BLISTERS of all");
        HornHouses y = Due.town("house 1 0 0;".repeat(8) + "person 41 0 in 0;person 41 0 in 1;"
            + "person 41 0 in 2;person 41 0 in 3;person 41 0 in 4;person 41 0 in 5;person 41 0 in 6;"
            + "person 41 0 in 7;bursts 0;");
        y.days(20);
        due.is("8 by 800", y.count(7), 6400);
        y.days(20);
        due.is("8 by 999", y.count(7), 7992);
        due.says(5, "10 ACTS that are kept, 11 SEEN, 12 bytes of the tape");
        HornHouses z = Twins.taped();
        due.is("acts", z.count(10), 4);
        due.is("seen", z.count(11), 2);
        due.is("bytes", z.count(12), 20);
        due.says(5, "NoSuchElementException: another what");
        for (int what : new int[] {16, 17, -1, Integer.MIN_VALUE, Integer.MAX_VALUE}) {
            due.none("count " + what, () -> x.count(what));
            Twins.leaves(due, "count " + what, t -> Due.thrown(() -> t.count(what)), 1);
        }
        due.is("the last one", x.count(15), 0);
    }

    private static void tightest() {
        due.says(0, "the PERSON in a HOUSE who is most TIGHT (of like ones the least); none, if nobody is TIGHT");
        due.is("of like ones", Due.town("house 9 0 0;house 9 0 0;house 9 0 0;"
            + "person 10 0 in 2;person 11 0 in 1;person 11 0 in 0;").count(8), 1);
        due.is("tight by 1", Due.town("house 9 0 0;person 9 0;person 10 0 in 0;").count(8), 1);
        due.is("the first", Due.town("house 9 0 0;person 10 0 in 0;person 10 0;").count(8), 0);
        due.is("as large", Due.town("house 9 0 0;person 9 0 in 0;").count(8), NONE);
        due.is("smaller", Due.town("house 9 0 0;person 1 0 in 0;").count(8), NONE);
        due.is("lodgers aren't", Due.town("house 9 0 0;person 60 0;person 8 0 in 0;").count(8), NONE);
        due.says(5, "8 who is TIGHTEST (NONE)");
        due.is("the last of eight", Due.town("house 9 0 0;".repeat(8) + "person 1 0;".repeat(7)
            + "person 10 0 in 3;").count(8), 7);
    }

    private static void needed() {
        due.says(0, "NEEDED: HOUSES without which (each alone) more would LODGE in A MATCH, as bits");
        due.is("both of two", Due.town("house 9 0 0;house 9 0 0;person 9 0;person 9 0;").count(9), 3);
        due.is("none of two for one", Due.town("house 9 0 0;house 9 0 0;person 9 0;").count(9), 0);
        due.is("none without people", Due.town("house 9 0 0;").count(9), 0);
        due.is("one who lodges anyway", Due.town("house 9 0 0;person 9 0;person 9 0;").count(9), 1);
        due.is("none that nobody goes in", Due.town("house 1 0 0;person 60 0;").count(9), 0);
        due.is("more tight isn't more who lodge",
            Due.town("house 9 0 0;house 8 0 0;person 9 0;eases 1;").count(9), 0);
        due.says(5, "9 NEEDED (bits)");
        due.is("all eight", Due.town("house 9 0 0;".repeat(8) + "person 9 0;".repeat(8)).count(9), 255);
        due.is("none of eight for seven", Due.town("house 9 0 0;".repeat(8) + "person 9 0;".repeat(7)).count(9), 0);
        due.is("the last alone", Due.town("house 1 0 0;".repeat(7) + "house 60 0 0;person 60 0;").count(9), 128);
    }

    private static void status() {
        due.says(5, "13 to 15 STATUS 0 to 2");
        HornHouses x = Due.town("house 9 0 0;person 9 0 in 0;");
        for (int i = 1; i <= 3; i++) {
            Due.tell(x, "house");
            due.is("texts", x.count(13), i);
        }
        for (int i = 1; i <= 2; i++) {
            x.stuff(0, 1);
            due.is("acts", x.count(14), i);
        }
        x.see(0, 21, 0);
        due.is("texts", x.count(13), 3);
        due.is("acts", x.count(14), 2);
        due.is("seen", x.count(15), 1);
        due.says(0, "STATUS: how many calls were refused: 0 of TEXTS with a FAULT, 1 of ACTS, 2 of what is SEEN");
        x.undo();
        due.is("to undo nothing is no act", x.count(14), 2);
        due.is("to restore nothing is none", x.restore(), false);
        due.none("no such person", () -> x.out(1));
        due.none("no such house", () -> x.see(1, 0, 0));
        due.bad("not so many bytes", () -> x.town(1));
        for (int i = 0; i < 35; i++) {
            x.feed(0, 0, 0, 0, 0);
        }
        due.is("a full tape", x.feed(0, 0, 0, 0, 0), NONE);
        due.is("all as it was: texts", x.count(13), 3);
        due.is("all as it was: acts", x.count(14), 2);
        due.is("all as it was: seen", x.count(15), 1);
    }

    // ---- promises 6 to 8

    private static void houseAnswers() {
        due.says(6, "3 WORN, 4 who is in it (NONE), 5 whether BURST (1)");
        HornHouses x = Twins.ruined();
        int[][] want = {{5, 0, 0, 4, NONE, 1, 0, 1}, {9, 0, 4, 0, 1, 0, 3, 0}, {5, 0, 8, 0, NONE, 0, 0, 1}};
        for (int h = 0; h < 3; h++) {
            for (int what = 0; what < 8; what++) {
                due.is("house " + h + ", " + what, x.house(h, what), want[h][what]);
            }
        }
        due.says(6, "NoSuchElementException: no such HOUSE (as everywhere), what");
        for (int h : new int[] {3, 8, -1, Integer.MIN_VALUE, Integer.MAX_VALUE}) {
            due.none("house " + h, () -> x.house(h, 0));
            due.none("house and what", () -> x.house(h, 8));
        }
        for (int what : new int[] {8, 9, -1, Integer.MIN_VALUE, Integer.MAX_VALUE}) {
            due.none("what " + what, () -> x.house(0, what));
            Twins.leaves(due, "what " + what, t -> Due.thrown(() -> t.house(0, what)), 1);
        }
    }

    private static void room() {
        due.says(0, "ROOM: how much larger a HOUSE is than who is in it (0, if not, or nobody is)");
        HornHouses x = Due.town("house 9 0 0;house 9 0 0;house 9 0 0;house 9 0 0;house 60 0 0;"
            + "person 8 0 in 0;person 9 0 in 1;person 10 0 in 2;person 1 0 in 4;");
        int[] want = {1, 0, 0, 0, 59};
        for (int h = 0; h < 5; h++) {
            due.is("house " + h, x.house(h, 6), want[h]);
        }
    }

    private static void nextDoor() {
        due.says(0, "NEXT DOOR of a HOUSE: the one whose PLACE is nearest to it (of like ones the least); none");
        due.is("one house", Due.town("house 9 0 0;").house(0, 7), NONE);
        due.is("the whole street", Due.town("house 9 0 0;house 9 0 30;").house(0, 7), 1);
        due.is("the whole street back", Due.town("house 9 0 0;house 9 0 30;").house(1, 7), 0);
        HornHouses x = Due.town("house 9 0 12;house 9 0 10;house 9 0 8;house 9 0 10;house 9 0 11;");
        due.is("at 12: 11", x.house(0, 7), 4);
        due.is("at 10: the other at 10", x.house(1, 7), 3);
        due.is("at 8: of both at 10 the least", x.house(2, 7), 1);
        due.is("at 10, back", x.house(3, 7), 1);
        due.is("at 11: 12 ahead of 10 by its number", x.house(4, 7), 0);
        due.says(6, "6 ROOM, 7 NEXT DOOR (NONE)");
        due.is("all at one place: 0", Due.town("house 9 0 5;house 9 0 5;house 9 0 5;").house(0, 7), 1);
        due.is("all at one place: 2", Due.town("house 9 0 5;house 9 0 5;house 9 0 5;").house(2, 7), 0);
    }

    private static void personAnswers() {
        due.says(7, "2 the HOUSE (NONE), 3 BLISTERS, 4 TIGHT now (0: one LODGES)");
        HornHouses x = Twins.ruined();
        int[][] want = {{10, 1, NONE, 4, 0}, {6, 0, 1, 0, 0}, {39, 9, NONE, 0, 0}};
        for (int p = 0; p < 3; p++) {
            for (int what = 0; what < 5; what++) {
                due.is("person " + p + ", " + what, x.person(p, what), want[p][what]);
            }
        }
        due.is("tight now, not then", Due.town("house 9 0 0;person 10 5 in 0;").person(0, 4), 1);
        due.says(7, "NoSuchElementException: no such PERSON (as everywhere), what");
        for (int p : new int[] {3, 8, -1, Integer.MIN_VALUE, Integer.MAX_VALUE}) {
            due.none("person " + p, () -> x.person(p, 0));
            due.none("person and what", () -> x.person(p, 5));
        }
        for (int what : new int[] {5, 6, -1, Integer.MIN_VALUE, Integer.MAX_VALUE}) {
            due.none("what " + what, () -> x.person(0, what));
            Twins.leaves(due, "what " + what, t -> Due.thrown(() -> t.person(0, what)), 1);
        }
    }

    private static void easesAnswers() {
        due.says(8, "What EASES gives, kept to 0 to 30");
        String town = "house 10 0 0;person 10 0;eases ";
        String[] rules = {"29", "30", "31", "9999", "8192*8192*32-1", "1", "0", "0-1", "0-9999", "8192*8192*32"};
        int[] want = {29, 30, 30, 30, 30, 1, 0, 0, 0, 0};
        for (int i = 0; i < rules.length; i++) {
            due.is(rules[i], Due.town(town + rules[i] + ";").eases(0, 0), want[i]);
        }
        HornHouses x = Due.town("house 10 0 0;person 1 0 in 0;eases 7;bursts 1;");
        due.is("where one is", x.eases(0, 0), 7);
        x.days(1);
        due.is("of a burst one", x.eases(0, 0), 7);
        due.none("no such house", () -> x.eases(0, 1));
        due.none("no such person", () -> x.eases(1, 0));
    }

    // ---- promises 9 to 15

    private static void days() {
        due.says(0, "DAYS go by (1 to 20)");
        for (int many = 1; many <= 20; many++) {
            due.is("of " + many, new HornHouses().days(many), many);
        }
        due.says(9, "DAYS go by: the DAY");
        HornHouses x = new HornHouses();
        due.is("1", x.days(1), 1);
        due.is("20", x.days(20), 21);
        due.is("19", x.days(19), 40);
        due.says(9, "NONE (STATUS 1): not 1 to 20");
        for (int many : new int[] {0, 21, -1, 22, Integer.MIN_VALUE, Integer.MAX_VALUE, Integer.MAX_VALUE - 1}) {
            Twins.changes(due, "days " + many, 14, y -> y.days(many), NONE);
        }
    }

    private static void lastDay() {
        due.says(9, "it would be above 999");
        HornHouses x = new HornHouses();
        for (int i = 0; i < 48; i++) {
            x.days(20);
        }
        x.days(19);
        due.is("at 979", x.count(2), 979);
        due.is("20 more", x.days(20), 999);
        due.is("1 more", x.days(1), NONE);
        due.is("it stays", x.count(2), 999);
        due.is("an act less to come", x.undo(), 39);
        due.is("at 979", x.count(2), 979);
        due.is("1 more", x.days(1), 980);
        due.is("20 more: 1000", x.days(20), NONE);
        due.is("it stays", x.count(2), 980);
        due.is("no act of it", x.count(10), 40);
        due.is("19 more", x.days(19), 999);
        due.is("refused", x.count(14), 2);
        due.is("what would be isn't bounded so", x.barefoot(40), 0);
        due.is("damp may be let in on 999", x.letIn(), 3);
    }

    private static void putIn() {
        due.says(10, "PUT IN: how TIGHT");
        due.is("0", enters("house 9 0 0;person 9 0;"), 0);
        due.is("1", enters("house 9 0 0;person 10 0;"), 1);
        due.is("30", enters("house 9 0 0;person 39 0;eases 30;"), 30);
        HornHouses x = Due.town("house 9 0 0;".repeat(8) + "person 9 0;".repeat(8));
        due.is("the last in the last", x.putIn(7, 7), 0);
        due.is("there", x.house(7, 4), 7);
        due.is("the first in the first", x.putIn(0, 0), 0);
        due.says(10, "NONE (STATUS 1): one is in a HOUSE, one doesn't GO IN");
        Twins.changes(due, "one is in another", 14, y -> y.putIn(1, 2), NONE);
        Twins.changes(due, "one is in this", 14, y -> y.putIn(1, 1), NONE);
        Twins.changes(due, "somebody is there", 14, y -> y.putIn(0, 1), NONE);
        Twins.changes(due, "a burst one", Twins::ruined, 14, y -> y.putIn(0, 0), NONE);
        Twins.changes(due, "too tight", Twins::ruined, 14, y -> y.putIn(0, 2), NONE);
        due.says(7, "no such PERSON (as everywhere)");
        for (int none : new int[] {3, -1, Integer.MIN_VALUE, Integer.MAX_VALUE}) {
            Twins.leaves(due, "person " + none, y -> Due.thrown(() -> y.putIn(none, 2)), 1);
            Twins.leaves(due, "house " + none, y -> Due.thrown(() -> y.putIn(2, none)), 1);
            Twins.leaves(due, "a refused one", y -> Due.thrown(() -> y.putIn(1, none)), 1);
        }
    }

    private static void out() {
        due.says(11, "Let OUT: the HOUSE");
        HornHouses x = Due.town("house 9 0 0;".repeat(8) + "person 9 0 in 0;person 9 0 in 7;");
        due.is("0", x.out(0), 0);
        due.is("7", x.out(1), 7);
        due.is("both lodge", x.count(6), 3);
        due.is("nobody is in any", x.count(5), 0);
        due.is("acts", x.count(10), 2);
        due.says(11, "NONE (STATUS 1): one LODGES");
        Twins.changes(due, "lodges", 14, y -> y.out(0), NONE);
        Twins.changes(due, "of a burst house", Twins::ruined, 14, y -> y.out(0), NONE);
        for (int none : new int[] {3, -1, Integer.MIN_VALUE, Integer.MAX_VALUE}) {
            Twins.leaves(due, "person " + none, y -> Due.thrown(() -> y.out(none)), 1);
        }
    }

    private static void stuff() {
        due.says(0, "a HOUSE in which nobody is, is STUFFED (SIZE is 1 to 20 less, not below 1)");
        due.is("60 by 1", Due.town("house 60 0 0;").stuff(0, 1), 59);
        due.is("60 by 20", Due.town("house 60 0 0;").stuff(0, 20), 40);
        due.is("22 by 20", Due.town("house 22 0 0;").stuff(0, 20), 2);
        due.is("21 by 20", Due.town("house 21 0 0;").stuff(0, 20), 1);
        due.is("20 by 20", Due.town("house 20 0 0;").stuff(0, 20), 1);
        due.is("2 by 1", Due.town("house 2 0 0;").stuff(0, 1), 1);
        due.is("1 by 1", Due.town("house 1 0 0;").stuff(0, 1), 1);
        due.says(12, "STUFFED: SIZE then");
        HornHouses x = Due.town("house 21 0 0;");
        x.stuff(0, 20);
        due.is("1 by 20", x.stuff(0, 20), 1);
        due.is("an act each", x.count(10), 2);
        due.is("size", x.house(0, 0), 1);
        x.undo();
        due.is("1 still", x.house(0, 0), 1);
        x.undo();
        due.is("21 again", x.house(0, 0), 21);
        HornHouses burst = Twins.ruined();
        due.is("a burst one", burst.stuff(0, 4), 1);
        due.says(12, "NONE (STATUS 1): somebody is in it, not 1 to 20");
        for (int less : new int[] {0, 21, -1, Integer.MIN_VALUE, Integer.MAX_VALUE}) {
            Twins.changes(due, "by " + less, 14, y -> y.stuff(0, less), NONE);
        }
        Twins.changes(due, "somebody is in it", 14, y -> y.stuff(1, 1), NONE);
        for (int none : new int[] {3, -1, Integer.MIN_VALUE, Integer.MAX_VALUE}) {
            Twins.leaves(due, "house " + none, y -> Due.thrown(() -> y.stuff(none, 1)), 1);
            Twins.leaves(due, "house ahead", y -> Due.thrown(() -> y.stuff(none, 0)), 1);
        }
    }

    private static void change() {
        due.says(0, "two PEOPLE CHANGE HOUSES (each GOES IN the other's; one of them may LODGE:"
            + " then the other one does)");
        String two = "house 10 0 0;house 20 0 0;person 10 0 in 0;person 15 0 in 1;eases ";
        due.is("tight 5 by 5", change(two + "5;", 0, 1), 10);
        due.is("tight 5 by 4", change(two + "4;", 0, 1), NONE);
        due.is("named the other way", change(two + "5;", 1, 0), 10);
        due.is("named the other way", change(two + "4;", 1, 0), NONE);
        String one = "house 10 0 0;person 10 0 in 0;person 15 0;eases ";
        due.is("one lodges then", change(one + "5;", 0, 1), -10);
        due.is("one lodges then, named the other way", change(one + "5;", 1, 0), -10);
        due.is("tight 5 by 4", change(one + "4;", 0, 1), NONE);
        due.is("tight 5 by 4", change(one + "4;", 1, 0), NONE);
        due.is("who lodges then needn't go in anywhere",
            change("house 10 0 0;person 60 0 in 0;person 10 0;eases 0;", 0, 1), -10);
        due.says(13, "Two CHANGE: true");
        HornHouses x = Due.town(two + "5;");
        due.is("true", x.change(0, 1), true);
        due.is("an act", x.count(10), 1);
        due.is("back", x.change(0, 1), true);
        due.is("as before", x.person(1, 2), 1);
        due.is("two acts", x.count(10), 2);
        due.says(13, "False (STATUS 1): both are one, both LODGE, one doesn't GO IN");
        Twins.changes(due, "one who lodges", 14, y -> y.change(0, 0) ? 1 : 0, 0);
        Twins.changes(due, "one in a house", 14, y -> y.change(1, 1) ? 1 : 0, 0);
        Twins.changes(due, "both lodge", 14, y -> y.change(0, 2) ? 1 : 0, 0);
        Twins.changes(due, "one doesn't go in", 14, y -> y.change(1, 2) ? 1 : 0, 0);
        Twins.changes(due, "the first doesn't", 14, y -> y.change(2, 1) ? 1 : 0, 0);
        for (int none : new int[] {3, -1, Integer.MIN_VALUE, Integer.MAX_VALUE}) {
            Twins.leaves(due, "person " + none, y -> Due.thrown(() -> y.change(none, 1) ? 1 : 0), 1);
            Twins.leaves(due, "other " + none, y -> Due.thrown(() -> y.change(1, none) ? 1 : 0), 1);
            Twins.leaves(due, "both " + none, y -> Due.thrown(() -> y.change(none, none) ? 1 : 0), 1);
        }
    }

    /** The houses of 1 and of 0 (10 by the first; NONE of 0 is -10); NONE, if they don't change. */
    private static int change(String text, int person, int other) {
        HornHouses x = Due.town(text);
        if (!x.change(person, other)) {
            return NONE;
        }
        return 10 * x.person(0, 2) + x.person(1, 2);
    }

    private static void letIn() {
        due.says(0, "DAMP is LET IN (that of this DAY is 9 from now on, till it is over)");
        HornHouses x = Due.town("house 9 0 0;person 18 0;damp 4 5;");
        due.is("tight 9 by 4", x.putIn(0, 0), NONE);
        due.is("as it was", x.letIn(), 4);
        due.is("9 now", x.count(3), 9);
        due.is("tight 9 by 9", x.putIn(0, 0), 9);
        due.is("9 still", x.count(3), 9);
        x.days(1);
        due.is("over", x.count(3), 5);
        due.is("again on that day", x.letIn(), 5);
        due.says(14, "DAMP is LET IN: as it was");
        due.is("0", Due.town("damp 0;").letIn(), 0);
        due.is("9", Due.town("damp 9;").letIn(), 9);
        due.is("3 without", new HornHouses().letIn(), 3);
        due.says(14, "NONE (STATUS 1): it is LET IN");
        Twins.changes(due, "again", 14, y -> y.letIn(), NONE);
        HornHouses nine = Due.town("damp 9;");
        nine.letIn();
        due.is("again, where it was 9", nine.letIn(), NONE);
        nine.undo();
        due.is("undone it may", nine.letIn(), 9);
    }

    private static void undo() {
        due.says(15, "The last ACT is UNDONE: how many are left");
        HornHouses x = new HornHouses();
        x.days(1);
        x.days(2);
        due.is("one", x.undo(), 1);
        due.is("day 1", x.count(2), 1);
        due.is("the last one", x.undo(), 0);
        due.is("day 0", x.count(2), 0);
        due.says(15, "NONE: there is none");
        due.is("none", x.undo(), NONE);
        due.is("kept", x.count(10), 0);
        Twins.leaves(due, "none at first", HornHouses::new, y -> y.undo(), NONE);
        Twins.leaves(due, "none in a town", () -> Due.town("house 9 0 0;person 10 0 in 0;"), y -> y.undo(), NONE);
        HornHouses y = new HornHouses();
        y.days(0);
        y.days(21);
        due.is("refused ones aren't kept", y.undo(), NONE);
    }

    // ---- promises 49, 50

    private static void image() {
        due.says(49, "The DAY, SIZES, WORN, BURST ones, who is where, BLISTERS, whether DAMP is LET IN, ACTS"
            + " and what is SEEN are kept as an image, in place of another one");
        HornHouses x = Due.town("house 20 0 0;house 9 0 0;house 9 0 0;person 20 1 in 0;person 12 0 in 1;"
            + "person 9 0;damp 1;bursts day=2;");
        x.days(1);
        x.letIn();
        x.see(0, 1, 2);
        x.image();
        x.out(0);
        x.stuff(2, 3);
        x.see(0, 1, 3);
        x.image();
        x.days(3);
        x.forget();
        due.is("burst", x.count(4), 2);
        due.is("restored", x.restore(), true);
        due.is("the day", x.count(2), 1);
        due.is("size of a person", x.person(0, 0), 21);
        due.is("size of a house", x.house(2, 0), 6);
        due.is("worn", x.house(1, 3), 3);
        due.is("burst ones", x.count(4), 0);
        due.is("who is where", x.count(5), 2);
        due.is("blisters", x.person(1, 3), 3);
        due.is("damp let in", x.count(3), 9);
        due.is("acts", x.count(10), 4);
        due.is("seen", x.count(11), 2);
        due.is("both are seen", x.large(2), 0);
        due.is("acts as they were", x.undo(), 3);
        due.is("stuffed", x.house(2, 0), 9);
        x.undo();
        due.is("out", x.person(0, 2), 0);
        x.undo();
        due.is("let in", x.count(3), 1);
        x.undo();
        due.is("days", x.count(2), 0);
        due.is("none is left", x.undo(), NONE);
        HornHouses full = new HornHouses();
        for (int i = 0; i < 43; i++) {
            full.days(1);
        }
        full.image();
        full.days(1);
        full.days(1);
        full.restore();
        due.is("40 acts", full.count(10), 40);
        for (int i = 39; i >= 0; i--) {
            due.is("undone of the image", full.undo(), i);
            due.is("to day", full.count(2), i + 3);
        }
        due.is("none is left", full.undo(), NONE);
        seenByImage();
        Twins.asks(due, "an image of what is there", Twins::restored, y -> {
            y.image();
            return 0;
        });
    }

    /** Eight things seen come back as they were, not as they are now. */
    private static void seenByImage() {
        HornHouses x = Due.town("house 9 0 0;house 9 0 0;person 9 0 in 0;person 9 0 in 1;");
        for (int i = 0; i < 7; i++) {
            x.see(0, 1, 2);
        }
        x.see(0, 2, 4);
        x.image();
        due.is("of house 0: 11", x.large(1), 11);
        x.forget();
        for (int i = 0; i < 7; i++) {
            x.see(1, 2, 6);
        }
        x.see(1, 1, 3);
        due.is("of house 1: 12", x.large(1), 112);
        x.restore();
        due.is("of house 0 again", x.large(1), 11);
        due.is("one size alone", x.large(0), 1);
        due.is("eight are seen", x.count(11), 8);
        x.forget();
        x.see(0, 1, 2);
        for (int i = 0; i < 6; i++) {
            x.see(0, 0, 0);
        }
        x.see(0, 2, 5);
        due.is("the eighth speaks against it", x.large(0), 0);
        x.image();
        x.forget();
        for (int i = 0; i < 8; i++) {
            x.see(1, 0, 0);
        }
        due.is("all hold", x.large(2), 1);
        x.restore();
        due.is("the eighth again", x.large(0), 0);
    }

    private static void restore() {
        due.says(50, "They are as the image again: true");
        HornHouses x = new HornHouses();
        x.image();
        x.days(1);
        due.is("true", x.restore(), true);
        due.is("day 0", x.count(2), 0);
        due.is("no acts", x.count(10), 0);
        due.is("it may be restored again", x.restore(), true);
        x.days(0);
        x.restore();
        due.is("status stays", x.count(14), 1);
        Due.feed(x, "house");
        x.restore();
        due.is("the tape stays", x.count(12), 20);
        due.is("a fault", x.town(20), 1);
        x.restore();
        due.is("its place stays", x.fault(), 20);
        due.says(50, "False: there is none");
        Twins.leaves(due, "none at first", HornHouses::new, y -> y.restore() ? 1 : 0, 0);
        Twins.leaves(due, "none in a town", Twins::ruined, y -> y.restore() ? 1 : 0, 0);
        HornHouses z = Twins.rich();
        Due.tell(z, "!");
        due.is("a fault leaves it", z.restore(), true);
        due.is("a town", Due.tell(z, ""), 0);
        due.is("doesn't", z.restore(), false);
        due.is("nor anything to undo", z.undo(), NONE);
    }
}
