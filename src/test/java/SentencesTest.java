/**
 * The sentences of the document that name no boundary, and so stand in no other test under their own words: each
 * with rows that are worked by hand.
 */
public final class SentencesTest {
    private static final Due due = new Due();
    private static final int NONE = HornHouses.NONE;

    /**
     * 0 (11) is in house 1 (10): 1 tight, then 4, 7 ..; 1 (20) is in house 2 (25); 2 (40) lodges; nobody is in house
     * 0 (33). Without rules house 1 bursts at more than 9 and 2, on the day on which 0 is 23: in 5 days.
     */
    private static final String STREET = "house 33 4 12;house 10 2 7;house 25 0 20;"
        + "person 11 3 in 1;person 20 1 in 2;person 40 0;damp 5 8 1;";

    public static void main(String[] args) {
        calls();
        rules();
        tokens();
        houseByHouse();
        counts();
        ofHouse();
        ofPerson();
        then();
        barefoot();
        last();
        match();
        round();
        large();
        byDamp();
        game();
        paid();
        dampest();
        kept();
        eased();
        wide();
        due.end("SentencesTest");
    }

    private static void calls() {
        due.says(0, "An object is used for at most 512 calls after it has been made; what later calls answer is free.");
        HornHouses x = new HornHouses();
        // 171 times a call that is refused, an act, and its undoing; the last one is still to come.
        for (int i = 0; i < 170; i++) {
            due.is("refused", x.days(0), NONE);
            due.is("letIn", x.letIn(), 3);
            due.is("undo", x.undo(), 0);
        }
        due.is("511", x.letIn(), 3);
        due.is("512", x.count(14), 170);
    }

    // ---- what is told

    private static void rules() {
        due.says(0, "Rules: EASES, BURSTS.");
        String pair = "house 10 0 0;house 10 0 1;person 15 0 in 1;person 15 0;damp 0;";
        HornHouses none = Due.town(pair);
        HornHouses eases = Due.town(pair + "eases 5;");
        HornHouses bursts = Due.town("bursts 1;" + pair);
        HornHouses both = Due.town("bursts 1;" + pair + "eases 5;");
        due.is("eases without", none.eases(1, 0), 0);
        due.is("eases by a rule", eases.eases(1, 0), 5);
        due.is("eases with the other rule alone", bursts.eases(1, 0), 0);
        due.is("eases with both", both.eases(1, 0), 5);
        due.is("goes without", none.goes(1), 0);
        due.is("goes by a rule", eases.goes(1), 3);
        due.is("bursts without", none.burst(1), NONE);
        due.is("bursts with the other rule alone", eases.burst(1), NONE);
        due.is("bursts by a rule", bursts.burst(1), 1);
        due.is("bursts with both", both.burst(1), 1);
    }

    private static void tokens() {
        due.says(0, "TOKENS: words (a .. z, the longest row), NUMBERS (1 to 4 digits), signs ; ( ) + - * / < =");
        // 1 + 2 - 12 / 5 is 1, which is below 6; and then 9 times that.
        HornHouses x = Due.town("house1 2 3;person4 5in0;damp6;eases((1+2-3*4/5<6)=1)*9;bursts not tight;");
        due.is("eases", x.eases(0, 0), 9);
        due.is("damp", x.count(3), 6);
        due.is("bursts", x.burst(0), NONE);
        for (String sign : new String[] {";", "(", ")", "+", "-", "*", "/", "<", "="}) {
            HornHouses y = new HornHouses();
            // Behind a number each of them but ( can stand; then a number, a ; or nothing is due.
            due.is("1" + sign, Due.tell(y, "eases (1" + sign + "$"), 1);
            due.is("place behind 1" + sign, y.fault(), sign.equals(";") || sign.equals("(") ? 8 : 9);
        }
    }

    private static void houseByHouse() {
        due.says(0, "A DAY: HOUSE by HOUSE in which a PERSON is: WORN is TIGHT more (99 at most)");
        HornHouses x = Due.town("house 10 0 0;house 10 0 1;house 10 0 2;person 13 0 in 2;person 14 1 in 0;person 50 0;"
            + "bursts 1;");
        due.is("day", x.days(1), 1);
        due.is("those in which somebody is are burst", x.count(4), 5);
        due.is("who lodges", x.count(6), 7);
        due.is("worn 0", x.house(0, 3), 4);
        due.is("worn 1, in which nobody is", x.house(1, 3), 0);
        due.is("worn 2", x.house(2, 3), 3);
        due.is("who lodges has none", x.person(2, 3), 0);
        due.is("blisters of 0", x.person(0, 3), 3);
        due.is("blisters of 1", x.person(1, 3), 4);
        due.is("they grow then", x.person(1, 0), 15);
    }

    // ---- what is

    private static void counts() {
        due.says(5, "0 HOUSES, 1 PEOPLE, 2 the DAY, 3 DAMP of it, 4 HOUSES that are BURST");
        HornHouses x = Due.town(STREET + "person 9 0;");
        int[] first = {3, 4, 0, 5, 0};
        for (int what = 0; what < 5; what++) {
            due.is("count " + what, x.count(what), first[what]);
        }
        x.days(7);
        int[] later = {3, 4, 7, 8, 2};
        for (int what = 0; what < 5; what++) {
            due.is("on day 7 count " + what, x.count(what), later[what]);
        }
    }

    private static void ofHouse() {
        due.says(6, "Of a HOUSE: 0 SIZE, 1 GIVE, 2 PLACE, 3 WORN");
        HornHouses x = Due.town(STREET);
        x.stuff(0, 6);
        x.days(2);
        int[][] told = {{27, 4, 12, 0}, {10, 2, 7, 5}, {25, 0, 20, 0}};
        for (int h = 0; h < 3; h++) {
            for (int what = 0; what < 4; what++) {
                due.is("house " + h + " " + what, x.house(h, what), told[h][what]);
            }
        }
    }

    private static void ofPerson() {
        due.says(7, "Of a PERSON: 0 SIZE, 1 GROWS, 2 the HOUSE (NONE), 3 BLISTERS, 4 TIGHT now");
        HornHouses x = Due.town(STREET);
        x.days(2);
        int[][] told = {{17, 3, 1, 5, 7}, {22, 1, 2, 0, 0}, {40, 0, NONE, 0, 0}};
        for (int p = 0; p < 3; p++) {
            for (int what = 0; what < 5; what++) {
                due.is("person " + p + " " + what, x.person(p, what), told[p][what]);
            }
        }
    }

    // ---- if only days go by

    private static void then() {
        due.says(16, "THEN: SIZE (what 0), the HOUSE (1; NONE), BLISTERS (2)");
        HornHouses x = Due.town(STREET);
        // 1, 4, 7, 10, and 13, by which the house bursts.
        int[] blisters = {0, 1, 5, 12, 22, 35, 35};
        for (int d = 0; d < 7; d++) {
            due.is("size in " + d, x.then(0, d, 0), 11 + 3 * d);
            due.is("house in " + d, x.then(0, d, 1), d < 5 ? 1 : NONE);
            due.is("blisters in " + d, x.then(0, d, 2), blisters[d]);
        }
        due.is("nothing changes", x.count(2), 0);
    }

    private static void barefoot() {
        due.says(20, "BAREFOOT, as bits.");
        HornHouses x = Due.town(STREET);
        due.is("now 2 alone", x.barefoot(0), 4);
        due.is("in 4", x.barefoot(4), 4);
        due.is("in 5 also 0", x.barefoot(5), 5);
        // House 2 bursts at more than 9, when 1 is 35, on the day behind 15: in 16.
        due.is("in 15", x.barefoot(15), 5);
        due.is("in 16 all", x.barefoot(16), 7);
    }

    private static void last() {
        due.says(21, "LAST: which (what 0; NONE: nobody is in any), in how many DAYS (1; NONE: not within 40)");
        HornHouses x = Due.town(STREET);
        due.is("which", x.last(0), 2);
        due.is("when", x.last(1), 16);
        x.out(1);
        due.is("of one: which", x.last(0), 1);
        due.is("of one: when", x.last(1), 5);
        x.out(0);
        due.is("of none: which", x.last(0), NONE);
        due.is("of none: when", x.last(1), NONE);
    }

    // ---- what goes in where

    private static void match() {
        due.says(23, "A MATCH: how many LODGE (what 0), how much is TIGHT (1).");
        HornHouses x = Due.town(STREET);
        // By damp 5: 0 goes in all three, 1 in houses 0 and 2, 2 (7 tight) in house 0 alone.
        due.is("none lodges", x.match(0), 0);
        due.is("1 and 7", x.match(1), 8);
        due.is("0 in 1", x.matched(0), 1);
        due.is("1 in 2", x.matched(1), 2);
        due.is("2 in 0", x.matched(2), 0);
        HornHouses y = Due.town("house 10 0 0;person 12 0;person 11 0;damp 2;");
        due.is("one lodges", y.match(0), 1);
        due.is("the lesser tight", y.match(1), 1);
    }

    private static void round() {
        due.says(28, "A ROUND.");
        HornHouses x = Due.town("house 5 9 7;house 5 9 20;house 5 9 12;house 5 9 29;"
            + "person 6 0 in 0;person 7 0 in 1;person 6 0 in 2;person 5 0 in 3;");
        due.is("from 0: to 20", x.round(0), 20);
        due.is("from 7", x.round(7), 13);
        due.is("from 12: back to 7, then to 20", x.round(12), 18);
        due.is("from 13: back to 7", x.round(13), 19);
        due.is("from 14: to 20, back to 7", x.round(14), 19);
        due.is("from 20", x.round(20), 13);
        due.is("from 29, where nobody is tight", x.round(29), 22);
    }

    // ---- what is seen, and what would be

    private static void large() {
        due.says(31, "LARGE: how many (what 0), the first (1; NONE: none), whether without (2).");
        HornHouses x = Due.town(STREET);
        due.is("see", x.see(1, 1, 6), 1);
        // Only 0 as large as 16 is 6 tight there on the first day.
        due.is("how many", x.large(0), 1);
        due.is("the first", x.large(1), 16);
        due.is("not without", x.large(2), 0);
        due.is("see", x.see(2, 1, 2), 2);
        due.is("no one alone is both", x.large(0), 0);
        due.is("none", x.large(1), NONE);
        x.forget();
        due.is("see", x.see(2, 1, 2), 1);
        due.is("1 as large as 27", x.large(1), 127);
        x.forget();
        due.is("see what is so", x.see(1, 1, 1), 1);
        due.is("so without", x.large(2), 1);
        due.is("59 sizes of 1, and of 2", x.large(0), 118);
        due.is("the first of them", x.large(1), 101);
    }

    private static void byDamp() {
        due.says(33, "BY DAMP.");
        HornHouses x = Due.town("house 10 0 0;house 10 0 1;person 12 0 in 0;bursts damp-8;");
        due.is("3 tenths", x.byDamp(0, 1, 3), 3);
        due.is("not twice 7 tenths", x.byDamp(0, 2, 3), 51);
        due.is("not three times 7 tenths", x.byDamp(0, 3, 3), 657);
        due.is("never", x.byDamp(0, 3, 0), 0);
        due.is("always", x.byDamp(0, 3, 10), 1000);
        due.is("nobody is in it", x.byDamp(1, 5, 10), 0);
    }

    private static void game() {
        due.says(34, "A GAME: how many couples rest (what 0), the first (1; NONE: none).");
        HornHouses x = Due.town("house 10 9 0;house 10 0 1;person 22 0;person 15 0;person 19 0;damp 9;");
        // For house 0 (18 are eased): 12 tight would lose 4, 5 tight gains 10, 9 tight gains 2, as who doesn't go.
        due.is("0 and 1", x.game(0, 1, 0, 0), 1);
        due.is("0 and 1: the other goes", x.game(0, 1, 0, 1), 1);
        due.is("1 and 0: the first goes", x.game(1, 0, 0, 1), 10);
        due.is("0 and 2", x.game(0, 2, 0, 0), 2);
        due.is("0 and 2: none goes, or the other", x.game(0, 2, 0, 1), 0);
        due.is("2 and 0", x.game(2, 0, 0, 0), 2);
        // For house 1 (9 are eased) 9 tight goes in, and gains 2; 12 doesn't, and loses 3.
        due.is("0 and 2 for 1", x.game(0, 2, 1, 0), 2);
        due.is("1 and 2 for 1: 1 goes", x.game(1, 2, 1, 1), 10);
    }

    // ---- the rest

    private static void paid() {
        due.says(38, "PAID.");
        HornHouses x = Due.town(STREET);
        int[] paid = {0, 1, 5, 12, 22, 35, 35};
        for (int d = 0; d < 7; d++) {
            due.is("in " + d, x.paid(d), paid[d]);
        }
        x.days(2);
        due.is("less those of now", x.paid(1), 7);
        // 1 is 26 on day 6 and 1 tight; 2 more on the next.
        due.is("of all", x.paid(6), 7 + 10 + 13 + 1 + 2);
    }

    private static void dampest() {
        due.says(40, "THE DAMPEST DAY.");
        HornHouses x = Due.town(STREET);
        due.is("of one", x.dampest(1), 0);
        due.is("of two", x.dampest(2), 1);
        due.is("of many", x.dampest(40), 1);
        x.days(2);
        due.is("from day 2, of two", x.dampest(2), 1);
        due.is("from day 2, of three", x.dampest(3), 2);
        x.letIn();
        due.is("let in", x.dampest(40), 0);
    }

    private static void kept() {
        due.says(41, "KEPT, as bits.");
        HornHouses x = Due.town(STREET);
        due.is("now", x.kept(0), 3);
        due.is("in 4", x.kept(4), 3);
        due.is("in 5", x.kept(5), 2);
        due.is("in 15", x.kept(15), 2);
        due.is("in 16", x.kept(16), 0);
    }

    private static void eased() {
        due.says(43, "EASED.");
        HornHouses x = Due.town(STREET);
        // Give 2, damp, and a tenth of worn: 5 8 1 5 8 1 .., 0 0 0 1 2 3 ..
        due.is("of one", x.eased(0, 1, 1), 0);
        due.is("of two", x.eased(0, 1, 2), 1);
        due.is("of four", x.eased(0, 1, 4), 1);
        due.is("of five", x.eased(0, 1, 5), 4);
        due.is("of eight", x.eased(0, 1, 8), 7);
        due.is("of all: it is burst in 5, and worn no more", x.eased(0, 1, 40), 7);
    }

    private static void wide() {
        due.says(46, "WIDE, as bits.");
        HornHouses x = Due.town(STREET);
        due.is("10", x.wide(10), 7);
        due.is("11", x.wide(11), 5);
        due.is("25", x.wide(25), 5);
        due.is("26", x.wide(26), 1);
        due.is("34", x.wide(34), 0);
        x.days(5);
        due.is("not the one that is burst", x.wide(1), 5);
    }
}
