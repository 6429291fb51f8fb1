/**
 * The text: a test for each sentence of 'Terms' and of promises 2 to 4 that names a boundary: the
 * last that is right, the first that isn't, and what stays then.
 */
public final class TextEdgesTest {
    private static final Due due = new Due();
    private static final int NONE = HornHouses.NONE;
    private static final String HOUSE = "house 9 0 0;";

    public static void main(String[] args) {
        houses();
        people();
        damp();
        dampOfDays();
        longestText();
        words();
        numbers();
        everyByteAtFirst();
        everyByteAsPart();
        everyByteBehindPart();
        blanks();
        lines();
        expressions();
        arithmetic();
        truths();
        values();
        firstFault();
        leastFault();
        cannotStand();
        endsTooSoon();
        fiveDigits();
        notAsTold();
        ninth();
        depth();
        nots();
        unknownWords();
        unknownHouses();
        takenHouses();
        secondLines();
        feed();
        fullTape();
        firstBytes();
        faultsLeaveAll();
        townAnew();
        notSoMany();
        place();
        due.end("TextEdgesTest");
    }

    private static void fault(String text, int code, int place) {
        HornHouses x = new HornHouses();
        due.is("town of '" + text + "'", Due.tell(x, text), code);
        due.is("place in '" + text + "'", x.fault(), place);
    }

    private static void right(String text) {
        fault(text, 0, NONE);
    }

    // ---- what a text tells

    private static void houses() {
        due.says(0, "HOUSES 0, 1 .. (at most 8)");
        HornHouses x = Due.town("house 1 0 0;".repeat(7) + "house 2 3 4;");
        due.is("eight", x.count(0), 8);
        due.is("the last one", x.house(7, 0), 2);
        due.none("no ninth", () -> x.house(8, 0));
        fault("house 1 0 0;".repeat(9), 2, 96);
        due.says(0, "SIZE (1 to 60), GIVE (0 to 9), a PLACE in the street (0 to 30)");
        HornHouses y = Due.town("house 1 0 0;house 60 9 30;");
        int[] least = {1, 0, 0};
        int[] most = {60, 9, 30};
        for (int what = 0; what < 3; what++) {
            due.is("least " + what, y.house(0, what), least[what]);
            due.is("most " + what, y.house(1, what), most[what]);
        }
        fault("house 0 0 0;", 2, 6);
        fault("house 61 0 0;", 2, 6);
        fault("house 60 10 0;", 2, 9);
        fault("house 60 9 31;", 2, 11);
        fault("house 9999 0 0;", 2, 6);
        fault("house 1 9999 0;", 2, 8);
        fault("house 1 0 9999;", 2, 10);
    }

    private static void people() {
        due.says(0, "PEOPLE 0, 1 .. (at most 8): SIZE (1 to 60), GROWS (0 to 9)");
        HornHouses x = Due.town("person 1 0;".repeat(7) + "person 60 9;");
        due.is("eight", x.count(1), 8);
        due.is("the least size", x.person(6, 0), 1);
        due.is("grows not", x.person(6, 1), 0);
        due.is("the largest", x.person(7, 0), 60);
        due.is("grows most", x.person(7, 1), 9);
        due.none("no ninth", () -> x.person(8, 0));
        fault("person 1 0;".repeat(9), 2, 88);
        fault("person 0 0;", 2, 7);
        fault("person 61 0;", 2, 7);
        fault("person 60 10;", 2, 10);
        fault("person 9999 0;", 2, 7);
        fault("person 1 9999;", 2, 9);
        due.says(0, "perhaps a HOUSE in which one is at first (else one LODGES)");
        HornHouses y = Due.town("house 1 0 0;".repeat(8) + "person 5 0 in 7;person 5 0 in 0;person 5 0;");
        due.is("in the last", y.person(0, 2), 7);
        due.is("who is in the last", y.house(7, 4), 0);
        due.is("in the first", y.person(1, 2), 0);
        due.is("who is in the first", y.house(0, 4), 1);
        due.is("lodges", y.person(2, 2), NONE);
        due.is("nobody between", y.house(1, 4), NONE);
    }

    private static void damp() {
        due.says(0, "DAMP (1 to 8 numbers, 0 to 9 each)");
        right("damp 0;");
        right("damp 9;");
        right("damp 0 9 0 9 0 9 0 9;");
        fault("damp;", 1, 4);
        fault("damp 0 0 0 0 0 0 0 0 0;", 2, 21);
        fault("damp 10;", 2, 5);
        fault("damp 9 10;", 2, 7);
        fault("damp 0 0 0 0 0 0 0 10;", 2, 19);
    }

    private static void dampOfDays() {
        due.says(0, "that of DAY d is the (d MOD how many)-th; 3 without");
        HornHouses x = Due.town("damp 1 2 3 4 5 6 7 8;");
        for (int day = 0; day <= 17; day++) {
            due.is("of day " + day, x.count(3), day % 8 + 1);
            x.days(1);
        }
        for (int i = 0; i < 49; i++) {
            x.days(20);
        }
        due.is("of day 998", x.count(3), 998 % 8 + 1);
        due.is("the last day", x.days(1), 999);
        due.is("of day 999", x.count(3), 999 % 8 + 1);
        HornHouses one = Due.town("damp 7;");
        due.is("one number", one.count(3), 7);
        one.days(1);
        due.is("one number on day 1", one.count(3), 7);
        HornHouses none = Due.town("");
        due.is("without", none.count(3), 3);
        none.days(1);
        due.is("without on day 1", none.count(3), 3);
        due.is("told 0 isn't without", Due.town("damp 0;").count(3), 0);
    }

    private static void longestText() {
        due.says(0, "A TEXT of at most 700 bytes tells it");
        String text = "house 7 0 0" + " ".repeat(688) + ";";
        HornHouses x = new HornHouses();
        Due.feed(x, text);
        due.is("700 bytes", x.town(700), 0);
        due.is("the house", x.house(0, 0), 7);
        Due.feed(x, text);
        due.is("without the last one", x.town(699), 1);
        due.is("its end", x.fault(), 699);
        String sum = "house 1 0 0;person 1 0;eases 00" + "+1".repeat(332) + "-310;";
        due.is("a rule up to the last byte", sum.length(), 700);
        due.is("all of it counts", Due.town(sum).eases(0, 0), 22);
    }

    // ---- tokens

    private static void words() {
        due.says(0, "words (a .. z, the longest row)");
        right("house1 0 0;person1 0in0;damp1;eases1or1and not1;");
        fault("housee 1 0 0;", 1, 0);
        fault("hous 1 0 0;", 1, 0);
        fault("houseperson 1 0 0;", 1, 0);
        fault(HOUSE + "person 1 0 inn 0;", 1, 23);
        fault("eases heelsize;", 3, 6);
        fault("eases 1 oror 1;", 1, 8);
        fault("eases not1;eases notnot 1;", 5, 11);
        fault("eases notnot 1;", 3, 6);
        fault("eases 1 an d 1;", 1, 8);
        letters("", "house", " 9 0 0;", 1);
        letters("", "person", " 9 0;", 1);
        letters(HOUSE + "person 9 0 ", "in", " 0;", 1);
        letters("", "damp", " 0;", 1);
        letters("", "eases", " 0;", 1);
        letters("", "bursts", " 0;", 1);
        letters("eases 1 ", "and", " 1;", 1);
        letters("eases 1 ", "or", " 1;", 1);
        for (String value : new String[] {"not", "heel", "size", "give", "worn", "damp", "day", "tight"}) {
            letters("bursts ", value, value.equals("not") ? " 1;" : ";", 3);
        }
        fault("eases Heel;", 1, 6);
        fault("eases 1 oR 1;", 1, 8);
        fault("eases heelL;", 1, 10);
    }

    /** The word is right; with any other letter in one place, or one less or more, it is another one. */
    private static void letters(String ahead, String word, String behind, int code) {
        right(ahead + word + behind);
        for (int i = 0; i < word.length(); i++) {
            for (String letter : new String[] {"", "a", "z", word.charAt(i) + "q"}) {
                String other = word.substring(0, i) + letter + word.substring(i + 1);
                // Without its letters a word that is none must still be one.
                if (!other.equals(word) && !other.isEmpty()) {
                    fault(ahead + other + behind, code, ahead.length());
                }
            }
        }
    }

    private static void numbers() {
        due.says(0, "NUMBERS (1 to 4 digits)");
        right("eases 0;");
        right("eases 0000;");
        right("eases 9999;");
        right("house 0001 0009 0030;person 0060 0000 in 0000;damp 0000 0009;");
        fault("eases 00000;", 2, 6);
        fault("eases 10000;", 2, 6);
        due.is("9999 as told", gives("(9999=3333*3)*7"), 7);
        due.is("0012 is 12", gives("0012"), 12);
        due.is("the first digit counts", gives("9000/1000"), 9);
    }

    private static boolean isIn(int b, String row) {
        return row.indexOf(b) >= 0;
    }

    private static boolean isLetter(int b) {
        return b >= 97 && b <= 122;
    }

    private static boolean isDigit(int b) {
        return b >= 48 && b <= 57;
    }

    private static boolean isBlank(int b) {
        return b == 32 || b == 10;
    }

    private static void everyByteAtFirst() {
        due.says(0, "LINE*");
        for (int b = 0; b < 256; b++) {
            String sign = String.valueOf((char) b);
            if (isBlank(b)) {
                right(sign);
                right(sign + HOUSE + sign);
            } else {
                fault(sign, 1, 0);
                // A letter ahead makes another word of it, all else is a token of its own.
                fault(sign + HOUSE, 1, 0);
                fault(HOUSE + sign, 1, 12);
            }
        }
    }

    private static void everyByteAsPart() {
        due.says(0, "signs ; ( ) + - * / < =");
        for (int b = 0; b < 256; b++) {
            String text = "eases " + (char) b + ";";
            if (isDigit(b)) {
                right(text);
            } else if (isLetter(b)) {
                fault(text, 3, 6);
            } else {
                fault(text, 1, isBlank(b) || b == '(' ? 7 : 6);
            }
        }
    }

    private static void everyByteBehindPart() {
        due.says(0, "signs ; ( ) + - * / < =");
        for (int b = 0; b < 256; b++) {
            String text = "eases 1" + (char) b + "1;";
            if (isDigit(b) || isIn(b, "+-*/<=")) {
                right(text);
            } else {
                fault(text, 1, isBlank(b) || b == ';' ? 8 : 7);
            }
            String closed = "eases (1" + (char) b + ";";
            if (b == ')') {
                right(closed);
            } else {
                int place = isBlank(b) || isDigit(b) || isIn(b, "+-*/<=") ? 9 : 8;
                fault(closed, 1, place);
            }
        }
    }

    private static void blanks() {
        due.says(0, "blanks (32, 10) between them count for nothing");
        right("\n house\n\n1 \n 0\n0 ; \nperson 1 0\nin\n0\n;\n");
        right(" ".repeat(20));
        right("eases(heel+size)*2<3and not(1)or 0;");
        right("eases ( heel + size ) * 2 < 3 and not ( 1 ) or 0 ;");
        fault("house 1 0 0 \n", 1, 13);
        fault("eases 1 2;", 1, 8);
        fault("eases 1 0 ;", 1, 8);
        for (char none : new char[] {0, 9, 11, 12, 13, 31, 33, 127, 160}) {
            fault("house" + none + "1 0 0;", 1, 5);
        }
    }

    private static void lines() {
        due.says(0, "LINE: ('house' SIZE GIVE PLACE | 'person' SIZE GROWS ['in' HOUSE]"
            + " | 'damp' NUMBER NUMBER* | ('eases' | 'bursts') EXPR) ';'");
        right("");
        right("house 1 0 0;person 1 0;person 1 0 in 0;damp 1;eases 1;bursts 1;");
        right("bursts 1;eases 1;damp 1;person 1 0;house 1 0 0;person 1 0 in 0;");
        fault("house 1 0;", 1, 9);
        fault("house 1 0 0 0;", 1, 12);
        fault("person 1;", 1, 8);
        fault("person 1 0 0;", 1, 11);
        fault(HOUSE + "person 1 0 in;", 1, 25);
        fault(HOUSE + "person 1 0 in 0 0;", 1, 28);
        fault(HOUSE + "person 1 0 in 0 in 0;", 1, 28);
        fault(HOUSE + "person in 0;", 1, 19);
        fault("damp 1 in;", 1, 7);
        fault("eases;", 1, 5);
        fault("bursts;", 1, 6);
        fault("eases 1;;", 1, 8);
        fault("house 1 0 0 person 1 0;", 1, 12);
    }

    // ---- what an EXPR gives

    /** What EASES gives of a person of 13 and a house of 11, give 4, damp 5, day 0; kept to 0 to 30. */
    private static int gives(String expression) {
        return Due.town("house 11 4 0;person 13 0;damp 5;eases " + expression + ";").eases(0, 0);
    }

    private static void expressions() {
        due.says(0, "EXPR: AND ('or' AND)*. AND: NOT ('and' NOT)*. NOT: 'not' NOT | SUM [('<' | '=') SUM]."
            + " SUM: PRODUCT (('+' | '-') PRODUCT)*. PRODUCT: PART (('*' | '/') PART)*."
            + " PART: NUMBER | VALUE | '(' EXPR ')'");
        right("eases 1 or 2 or 3 and 4 and 5 and not 6 or not not 7<8 and 9=10;");
        fault("eases 1<2<3;", 1, 9);
        fault("eases 1=2=3;", 1, 9);
        fault("eases 1<2=3;", 1, 9);
        fault("eases 1<not 2;", 3, 8);
        fault("eases 1+not 2;", 3, 8);
        fault("eases 1*not 2;", 3, 8);
        right("eases 1*(not 2);");
        fault("eases -1;", 1, 6);
        fault("eases 1--1;", 1, 8);
        fault("eases ();", 1, 7);
        fault("eases (1;", 1, 8);
        fault("eases 1);", 1, 7);
        fault("eases (1)1;", 1, 9);
        due.is("and binds more than or", gives("1 or 1 and 0"), 1);
        due.is("not binds more than and", gives("not 0 and 0"), 0);
        due.is("tests bind more than not", gives("not 2=3"), 1);
        due.is("sums bind more than tests", gives("2+2=4"), 1);
        due.is("sums bind more than tests, right", gives("4=2+2"), 1);
        due.is("products bind more than sums", gives("20-2*3"), 14);
        due.is("products bind more than sums, left", gives("9/3+2"), 5);
        due.is("parentheses bind most", gives("(20-2)/3"), 6);
    }

    private static void arithmetic() {
        due.says(0, "From the left");
        due.is("minus", gives("20-3-4"), 13);
        due.is("minus, plus", gives("20-3+4"), 21);
        due.is("by", gives("24/4/2"), 3);
        due.is("by, times", gives("25/4*2"), 12);
        due.is("times, by", gives("5*5/2"), 12);
        due.says(0, "ints that wrap");
        due.is("the largest and 1", gives("(8192*8192*32-1+1<0)*7"), 7);
        due.is("the largest", gives("(0<8192*8192*32-1)*7"), 7);
        due.is("the least less 1", gives("(0<0-8192*8192*32-1)*7"), 7);
        due.is("times", gives("8192*8*(8192*8)+7"), 7);
        due.is("times beyond 53 bits", gives("9999*9999*9999*9999-(9999*9999)*(9999*9999)+7"), 7);
        due.is("the least by -1", gives("((0-8192*8192*32)/(0-1)=8192*8192*32)*7"), 7);
        due.says(0, "/ cut down to 0");
        due.is("7 by 2", gives("7/2"), 3);
        due.is("-7 by 2", gives("10+(0-7)/2"), 7);
        due.is("7 by -2", gives("10+7/(0-2)"), 7);
        due.is("-7 by -2", gives("(0-7)/(0-2)"), 3);
        due.is("-1 by 2", gives("10+(0-1)/2"), 10);
        due.says(0, "by 0 gives 0");
        due.is("9 by 0", gives("10+9/0"), 10);
        due.is("-9 by 0", gives("10+(0-9)/0"), 10);
        due.is("0 by 0", gives("10+0/0"), 10);
        due.is("by what becomes 0", gives("10+9/(size-11)"), 10);
        due.is("by 1", gives("9/1"), 9);
        due.is("goes on from 0", gives("9/0*5+3"), 3);
    }

    private static void truths() {
        due.says(0, "tests, not, and, or are 1 or 0 (what isn't 0 holds)");
        due.is("less", gives("10+(1<2)"), 11);
        due.is("like isn't less", gives("10+(2<2)"), 10);
        due.is("more isn't less", gives("10+(3<2)"), 10);
        due.is("less below 0", gives("10+(0-1<0)"), 11);
        due.is("like", gives("10+(2=2)"), 11);
        due.is("less isn't like", gives("10+(1=2)"), 10);
        due.is("more isn't like", gives("10+(3=2)"), 10);
        int[] numbers = {0, 1, 2, 9};
        for (int a : numbers) {
            due.is("not " + a, gives("10+(not " + a + ")"), a == 0 ? 11 : 10);
            due.is("not -" + a, gives("10+(not 0-" + a + ")"), a == 0 ? 11 : 10);
            for (int b : numbers) {
                String also = a + " and 0-" + b;
                due.is(also, gives("10+(" + also + ")"), a != 0 && b != 0 ? 11 : 10);
                String or = "0-" + a + " or " + b;
                due.is(or, gives("10+(" + or + ")"), a != 0 || b != 0 ? 11 : 10);
            }
        }
        due.is("2 and 1 have no bit in common, yet hold", gives("10+(2 and 1)"), 11);
        due.is("a PART alone isn't made 1", gives("(9)"), 9);
    }

    private static void values() {
        due.says(0, "VALUES of a PERSON and a HOUSE: 'heel' (the PERSON's SIZE), 'size' (the HOUSE's),"
            + " 'give', 'worn', 'damp' (of the DAY), 'day', of BURSTS also 'tight'"
            + " (by how much the PERSON is larger; 0, if not)");
        due.is("heel", gives("heel"), 13);
        due.is("size", gives("size"), 11);
        due.is("give", gives("give"), 4);
        due.is("worn", gives("worn"), 0);
        due.is("damp", gives("damp"), 5);
        due.is("day", gives("10+day"), 10);
        HornHouses x = Due.town("house 11 4 0;person 13 1 in 0;damp 5 6;eases worn*3+day+damp*2;bursts 0;");
        x.days(1);
        due.is("worn 2, day 1, damp 6", x.eases(0, 0), 19);
        fault("eases tight;", 3, 6);
        right("bursts tight;");
        due.is("tight by 1", bursts("house 9 0 0;person 10 0 in 0;bursts tight=1;"), 1);
        due.is("as large: 0", bursts("house 9 0 0;person 9 0 in 0;bursts tight=0;"), 1);
        due.is("smaller: 0", bursts("house 9 0 0;person 1 0 in 0;bursts tight=0;"), 1);
        due.is("smaller: not below 0", bursts("house 9 0 0;person 1 0 in 0;bursts tight<0;"), NONE);
    }

    private static int bursts(String text) {
        return Due.town(text).burst(0);
    }

    // ---- faults

    private static void firstFault() {
        due.says(0, "FAULTS, the first along the text, at a TOKEN's first byte");
        fault("house 0 0 0;house", 2, 6);
        fault("house 61 10 31;", 2, 6);
        fault("house 60 10 31;", 2, 9);
        fault("damp 1;damp 1;house;", 5, 7);
        fault("  house   0061 0 0;", 2, 10);
        fault("eases 1+  tight+99999;", 3, 10);
        fault("eases 1+99999+tight;", 2, 8);
        fault("person 1 0 in 0;person 0 0;", 3, 14);
        fault("eases\n\n\nhouse;", 3, 8);
    }

    private static void leastFault() {
        due.says(0, "of one TOKEN the least");
        // Too deep, and no VALUE: 2 ahead of 3.
        fault("eases ((((((house))))));", 2, 12);
        fault("eases ((((((tight))))));", 2, 12);
        // Not here at all, and of too many digits: 1 ahead of 2.
        fault("house 1 0 0 12345;", 1, 12);
        fault("12345", 1, 0);
        fault("eases 1 12345;", 1, 8);
        fault("person 1 0 12345;", 1, 11);
        // Of too many digits, and a house that isn't told: 2 ahead of 3; one that is taken: 2 ahead of 4.
        fault("person 1 0 in 00001;", 2, 14);
        fault(HOUSE + "person 1 0 in 0;person 1 0 in 00000;", 2, 42);
        // Not here, and a second one: 1 ahead of 5.
        fault("damp 1;house damp;", 1, 13);
        fault("damp 1 damp 1;", 1, 7);
        fault("eases 1 eases 1;", 1, 8);
        // A second one within an EXPR is no VALUE: 3 ahead of 5.
        fault("eases eases;", 3, 6);
    }

    private static void cannotStand() {
        due.says(0, "1 a TOKEN that can't stand there, or is none");
        for (String first : new String[] {"in", "or", "heel", "7", ";", "(", "x", "!"}) {
            fault(first + " 1 0 0;", 1, 0);
        }
        for (String sizes : new String[] {"house", "heel", ";", "(", "-", "!", "="}) {
            fault("house " + sizes + " 0 0;", 1, 6);
            fault("house 1 " + sizes + " 0;", 1, 8);
            fault("house 1 0 " + sizes + ";", 1, 10);
            fault("person " + sizes + " 0;", 1, 7);
            fault("person 1 " + sizes + " 0;", 1, 9);
            fault("person 1 0 in " + sizes + ";", 1, 14);
            fault("damp " + sizes + ";", 1, 5);
        }
        for (String behind : new String[] {"heel", "not", "in", "(", "!", "7", ")"}) {
            fault("eases 1 " + behind + " 1;", 1, 8);
        }
        for (String part : new String[] {";", ")", "+", "-", "*", "/", "<", "=", "!"}) {
            fault("eases " + part, 1, 6);
            fault("eases 1+" + part, 1, 8);
            fault("eases 1<" + part, 1, 8);
            fault("eases (" + part, 1, 7);
            fault("eases not " + part, 1, 10);
            fault("eases 1 or " + part, 1, 11);
        }
    }

    private static void endsTooSoon() {
        due.says(0, "(the text's length where it ends too soon)");
        int[] house = {NONE, 0, 0, 0, 0, 5, 6, 7, 8, 9, 10, 11, NONE};
        cut("house 1 2 3;", house, 1);
        int[] person = {NONE, 0, 0, 0, 0, 0, 6, 7, 8, 9, 10, 11, 11, 13, 14};
        cut("person 1 2 in 0;", person, 1);
        int[] damp = {NONE, 0, 0, 0, 4, 5, 6, 7, 8, NONE};
        cut("damp 1 2;", damp, 1);
        cut("eases 1+(2);", new int[] {NONE, 0, 0, 0, 0, 5, 6, 7, 8, 9, 10, 11, NONE}, 1);
        fault("eases not", 1, 9);
        fault("eases 1 and", 1, 11);
        fault("eases 1 or ", 1, 11);
        fault("eases ((((((", 1, 12);
        fault("eases not not not not not not", 1, 29);
        fault("house 1 2 3;house", 1, 17);
        fault("house 1 2 3   ", 1, 14);
        fault("house 1 2\n", 1, 10);
    }

    /** Of the text's first 0, 1 .. bytes: the place of the fault; NONE, if it is a town. */
    private static void cut(String text, int[] places, int code) {
        for (int n = 0; n < places.length; n++) {
            fault(text.substring(0, n), places[n] == NONE ? 0 : code, places[n]);
        }
    }

    private static void fiveDigits() {
        due.says(0, "2 one that can, but is too much: a NUMBER of 5 digits or more");
        fault("house 00001 0 0;", 2, 6);
        fault("house 1 00000 0;", 2, 8);
        fault("house 1 0 00000;", 2, 10);
        fault("person 00001 0;", 2, 7);
        fault("person 1 00000;", 2, 9);
        fault(HOUSE + "person 1 0 in 00000;", 2, 26);
        fault("damp 00000;", 2, 5);
        fault("damp 0 00000;", 2, 7);
        fault("eases 00000;", 2, 6);
        fault("eases 1+00000;", 2, 8);
        fault("bursts 00000;", 2, 7);
        fault("eases 12345678901234567890;", 2, 6);
        // As ints that wrap these would be 1 and 0.
        fault("house 4294967297 0 0;", 2, 6);
        fault("house 1 4294967296 0;", 2, 8);
        right("house 0001 0000 0000;person 0001 0000 in 0000;damp 0000 0000;eases 0000;bursts 9999;");
    }

    private static void notAsTold() {
        due.says(0, "or (not in an EXPR) not as told");
        right("eases 61+9999;bursts 0;");
        fault("house 0 0 0;", 2, 6);
        fault("house 61 0 0;", 2, 6);
        fault("house 1 10 0;", 2, 8);
        fault("house 1 0 31;", 2, 10);
        fault("person 0 0;", 2, 7);
        fault("person 61 0;", 2, 7);
        fault("person 1 10;", 2, 9);
        fault("damp 10;", 2, 5);
        fault("damp 0 10;", 2, 7);
    }

    private static void ninth() {
        due.says(0, "the first TOKEN of the 9th HOUSE, the 9th PERSON");
        String houses = HOUSE.repeat(8);
        String people = "person 1 0;".repeat(8);
        right(houses + people);
        fault(houses + "house", 2, 96);
        fault(houses + "\nhouse 0 0 0;", 2, 97);
        fault(houses + "houses", 1, 96);
        fault(people + "person", 2, 88);
        fault(people + "  person 0 0;", 2, 90);
        fault(houses + people + "person 1 0;", 2, 184);
        fault(houses + people + "house 1 0 0;", 2, 184);
        right(people + houses + "damp 1;eases 1;bursts 1;");
        due.says(0, "the 9th number of DAMP");
        fault("damp 1 2 3 4 5 6 7 8 9;", 2, 21);
        fault("damp 1 2 3 4 5 6 7 8 10 11", 2, 21);
        fault("damp 1 2 3 4 5 6 7 8 ;damp", 5, 22);
        fault("damp 1 2 3 4 5 6 7 8 in", 1, 21);
    }

    private static void depth() {
        due.says(0, "of an EXPR within 6 others (a NUMBER, any word, a parenthesis)");
        right("eases (((((1)))));");
        right("eases (((((heel)))));");
        right("eases (((((not 1)))));");
        fault("eases (((((in)))));", 3, 11);
        for (String first : new String[] {"1", "0000", "99999", "heel", "tight", "in", "not", "or", "("}) {
            fault("eases ((((((" + first, 2, 12);
            fault("eases ((((((" + first + " 1))))));", 2, 12);
            fault("bursts (((((( \n" + first, 2, 15);
        }
        for (String none : new String[] {")", "+", ";", "=", "!", "\u00e9", ""}) {
            fault("eases ((((((" + none, 1, 12);
        }
        fault("eases 1+(2*(3-(4/(5<(6 and (7))))));", 2, 28);
        right("eases 1+(2*(3-(4/(5<(6 and 7)))));");
        right("eases (((((1)))))+(((((2)))))*(((((3)))));");
        fault("eases (((((1)))))+((((((2))))));", 2, 24);
        due.is("what stands deepest counts", gives("(((((heel)))))+1"), 14);
    }

    private static void nots() {
        due.says(0, "the seventh 'not' side by side");
        String six = "not not not not not not ";
        right("eases " + six + "1;");
        due.is("six", gives("10+(" + six + "9)"), 11);
        due.is("five", gives("10+(not not not not not 9)"), 10);
        fault("eases " + six + "not 1;", 2, 30);
        fault("eases " + six + "not", 2, 30);
        fault("eases " + six + "no", 3, 30);
        fault("eases " + six + "nots", 3, 30);
        fault("eases 1 and " + six + "not 1;", 2, 36);
        right("eases " + six + "1 and " + six + "1 or " + six + "1;");
        right("eases " + six + "(" + six + "1);");
        fault("eases " + six + "(" + six + "not 1);", 2, 55);
    }

    private static void unknownWords() {
        due.says(0, "3 any word where a PART must stand that is no VALUE of this EXPR");
        for (String word : new String[] {"and", "or", "in", "house", "person", "eases", "bursts", "heels",
            "hee", "sizes", "x", "tights"}) {
            fault("eases " + word + ";", 3, 6);
            fault("eases 1+" + word + ";", 3, 8);
            fault("eases 1*" + word + ";", 3, 8);
            fault("eases 1<" + word + ";", 3, 8);
            fault("eases not " + word + ";", 3, 10);
            fault("eases (" + word + ");", 3, 7);
            fault("eases 1 or " + word + ";", 3, 11);
            fault("eases 1 and " + word + ";", 3, 12);
            fault("bursts " + word + ";", 3, 7);
        }
        fault("eases tight;", 3, 6);
        fault("bursts tight;eases tight;", 3, 19);
        fault("eases 1;bursts tigh;", 3, 15);
        right("eases 1;bursts tight;");
        // A bursts ahead must not open 'tight' to eases, nor eases close it to bursts.
        right("eases heel;bursts heel+tight;");
    }

    private static void unknownHouses() {
        due.says(0, "a HOUSE that isn't told ahead");
        fault("person 1 0 in 0;", 3, 14);
        fault("person 1 0 in 0;" + HOUSE, 3, 14);
        right(HOUSE + "person 1 0 in 0;");
        fault(HOUSE + "person 1 0 in 1;", 3, 26);
        fault(HOUSE + "person 1 0 in 1;" + HOUSE, 3, 26);
        right(HOUSE + HOUSE + "person 1 0 in 1;");
        right(HOUSE.repeat(8) + "person 1 0 in 7;");
        fault(HOUSE.repeat(8) + "person 1 0 in 8;", 3, 110);
        fault(HOUSE.repeat(8) + "person 1 0 in 9999;", 3, 110);
    }

    private static void takenHouses() {
        due.says(0, "4 a HOUSE in which somebody is");
        fault(HOUSE + "person 1 0 in 0;person 1 0 in 0;", 4, 42);
        fault(HOUSE + HOUSE + "person 1 0 in 1;person 1 0 in 0;person 1 0 in 1;", 4, 70);
        right(HOUSE + HOUSE + "person 1 0 in 1;person 1 0;person 1 0 in 0;");
        fault(HOUSE.repeat(8) + "person 1 0 in 7;person 1 0 in 7;", 4, 126);
        // Who was where in another text doesn't count.
        HornHouses x = Due.town(HOUSE + "person 1 0 in 0;");
        due.is("anew", Due.tell(x, HOUSE + "person 1 0;person 1 0 in 0;"), 0);
        due.is("a fault", Due.tell(x, HOUSE + "person 1 0 in 0;person"), 1);
        due.is("anew behind a fault", Due.tell(x, HOUSE + "person 1 0 in 0;"), 0);
    }

    private static void secondLines() {
        due.says(0, "5 a second 'damp', 'eases', 'bursts'");
        right("damp 0;eases 0;bursts 0;");
        fault("damp 0;damp", 5, 7);
        fault("eases 0;eases", 5, 8);
        fault("bursts 0;bursts", 5, 9);
        fault("damp 0;eases 0;bursts 0;\ndamp 0;", 5, 25);
        fault("eases 0;bursts 0;eases 1;", 5, 17);
        fault("bursts 0;eases 0;bursts 1;", 5, 17);
        HornHouses x = Due.town("damp 1;eases 1;bursts 1;");
        due.is("anew", Due.tell(x, "damp 2;eases 1;bursts 1;"), 0);
        due.is("a fault behind all three", Due.tell(x, "damp 3;eases 1;bursts 1;!"), 1);
        due.is("anew behind a fault", Due.tell(x, "bursts 1;eases 1;damp 4;"), 0);
        due.is("the latest damp", x.count(3), 4);
    }

    // ---- promises 2 to 4

    private static void feed() {
        due.says(2, "Twenty bytes come behind the tape, of each number the highest first: how many it has");
        HornHouses x = new HornHouses();
        due.is("none at first", x.count(12), 0);
        due.is("the first twenty", x.feed(0x686f7573, 0x65203720, 0x3820393b, 0x70657273, 0x6f6e2031), 20);
        due.is("they are there", x.count(12), 20);
        due.is("behind these", x.feed(0x3220333b, 0x20202020, 0x20202020, 0x20202020, 0x2020203b), 40);
        due.is("the last one too", x.town(40), 1);
        due.is("stands at the end", x.fault(), 39);
        x.feed(0x686f7573, 0x65203720, 0x3820393b, 0x70657273, 0x6f6e2031);
        x.feed(0x3220333b, 0x20202020, 0x20202020, 0x20202020, 0x2020203b);
        due.is("without the last one", x.town(39), 0);
        due.is("size", x.house(0, 0), 7);
        due.is("give", x.house(0, 1), 8);
        due.is("place", x.house(0, 2), 9);
        due.is("heel", x.person(0, 0), 12);
        due.is("grows", x.person(0, 1), 3);
        due.is("numbers below 0 are bytes too", x.feed(-1, -1, -1, Integer.MIN_VALUE, -1), 20);
        due.is("byte 255 is no token", x.town(20), 1);
        due.is("the first one", x.fault(), 0);
    }

    private static void fullTape() {
        due.says(2, "NONE, and none come, if it would have more than 700");
        HornHouses x = new HornHouses();
        for (int i = 1; i <= 34; i++) {
            due.is("feed " + i, x.feed(0x20202020, 0x20202020, 0x20202020, 0x20202020, 0x20202020), 20 * i);
        }
        due.is("up to 700", x.feed(0x20202020, 0x686f7573, 0x65203520, 0x3020303b, 0x20202020), 700);
        due.is("not above", x.feed(0x3b3b3b3b, 0x3b3b3b3b, 0x3b3b3b3b, 0x3b3b3b3b, 0x3b3b3b3b), NONE);
        due.is("none came", x.count(12), 700);
        due.is("again", x.feed(0, 0, 0, 0, 0), NONE);
        due.is("no status", x.count(13) + x.count(14) + x.count(15), 0);
        due.bad("700 alone are there", () -> x.town(701));
        due.is("what was there stands", x.town(700), 0);
        due.is("the house", x.house(0, 0), 5);
        due.is("empty, it takes more", x.feed(0x20202020, 0x20202020, 0x20202020, 0x20202020, 0x20202020), 20);
    }

    private static void firstBytes() {
        due.says(3, "The tape's first n bytes (it is empty then) are a TOWN, all anew");
        HornHouses x = Due.town(HOUSE + "person 9 0 in 0;");
        Due.feed(x, "house 8 0 0;!");
        due.is("twenty are there", x.count(12), 20);
        due.is("the first twelve", x.town(12), 0);
        due.is("the house", x.house(0, 0), 8);
        due.is("nobody is left of the town ahead", x.count(1), 0);
        due.is("nobody is in it", x.house(0, 4), NONE);
        due.is("empty then", x.count(12), 0);
        due.is("the rest is gone", x.town(0), 0);
        due.is("of no bytes: no houses", x.count(0), 0);
        Due.feed(x, HOUSE);
        due.is("of no bytes, though there are some", x.town(0), 0);
        due.is("no houses", x.count(0), 0);
        due.is("empty then too", x.count(12), 0);
        Due.feed(x, HOUSE + " ".repeat(8));
        due.is("of all bytes", x.town(20), 0);
        due.is("one house", x.count(0), 1);
        Due.feed(x, "houses");
        due.is("with a fault", x.town(6), 1);
        due.is("empty then as well", x.count(12), 0);
        HornHouses y = Due.town(HOUSE.repeat(8) + "person 9 0 in 7;person 9 0 in 3;");
        due.is("the same two, who lodge", Due.tell(y, HOUSE.repeat(8) + "person 9 0;person 9 0;"), 0);
        due.is("both lodge", y.count(6), 3);
        due.is("0 is in none", y.person(0, 2), NONE);
        due.is("1 is in none", y.person(1, 2), NONE);
        due.is("nobody is in any", y.count(5), 0);
    }

    private static void faultsLeaveAll() {
        due.says(3, "0, or the FAULT (all stays)");
        String[] texts = {"house 9 0 0", "house 61 0 0;", "person 1 0 in 0;", "damp 1 1;damp",
            HOUSE + "person 1 0 in 0;person 1 0 in 0;", "damp 9;eases 0;bursts 1;!"};
        int[] codes = {1, 2, 3, 5, 4, 1};
        for (int i = 0; i < texts.length; i++) {
            String text = texts[i];
            int code = codes[i];
            Twins.changes(due, "fault of " + text, 13, y -> Due.tell(y, text), code);
        }
    }

    private static void townAnew() {
        due.says(3, "ACTS, what is SEEN, the image are gone (STATUS stays)");
        HornHouses x = Due.town("house 20 2 0;person 25 1 in 0;damp 1;eases 7;bursts day=9;");
        Due.tell(x, "!");
        x.days(0);
        x.days(21);
        x.see(0, 0, 100);
        x.see(0, 0, 100);
        x.see(0, 0, 100);
        x.days(5);
        x.letIn();
        x.see(0, 1, 5);
        x.image();
        due.is("another town", Due.tell(x, "house 20 2 0;person 25 1 in 0;"), 0);
        due.is("the day", x.count(2), 0);
        due.is("no damp told: 3, none let in", x.count(3), 3);
        due.is("not worn", x.house(0, 3), 0);
        due.is("no blisters", x.count(7), 0);
        due.is("no acts", x.count(10), 0);
        due.is("none to undo", x.undo(), NONE);
        due.is("nothing seen", x.count(11), 0);
        due.is("so all is so", x.large(2), 1);
        due.is("no image", x.restore(), false);
        due.is("no eases told: 2 and 3", x.eases(0, 0), 5);
        due.is("no bursts told: tight 12 on the 8th day", x.burst(0), 8);
        due.is("texts", x.count(13), 1);
        due.is("acts", x.count(14), 2);
        due.is("seen", x.count(15), 3);
        due.is("damp may be let in", x.letIn(), 3);
    }

    private static void notSoMany() {
        due.says(3, "IllegalArgumentException: the tape has not so many, n below 0 (nothing changes)");
        HornHouses x = new HornHouses();
        due.bad("an empty tape", () -> x.town(1));
        Due.tell(x, "  !");
        Due.feed(x, HOUSE);
        for (int n : new int[] {21, 22, 700, Integer.MAX_VALUE, -1, -20, Integer.MIN_VALUE}) {
            due.bad("town of " + n, () -> x.town(n));
        }
        due.is("the tape stays", x.count(12), 20);
        due.is("the fault stays", x.fault(), 2);
        due.is("no text is refused", x.count(13), 1);
        due.is("all of it is right", x.town(20), 0);
        for (int n : new int[] {21, -1}) {
            Twins.leaves(due, "town of " + n, y -> Due.thrown(() -> y.town(n)), 2);
        }
    }

    private static void place() {
        due.says(4, "The place of the latest town()'s FAULT; NONE without");
        HornHouses x = new HornHouses();
        due.is("without any town", x.fault(), NONE);
        due.is("a town", Due.tell(x, HOUSE), 0);
        due.is("without a fault", x.fault(), NONE);
        Due.tell(x, "!");
        due.is("at 0", x.fault(), 0);
        Due.tell(x, HOUSE + "!");
        due.is("the latest", x.fault(), 12);
        due.bad("no town", () -> x.town(1));
        due.is("stays", x.fault(), 12);
        x.days(1);
        x.days(0);
        x.undo();
        due.is("acts leave it", x.fault(), 12);
        Due.tell(x, HOUSE);
        due.is("without again", x.fault(), NONE);
        HornHouses y = new HornHouses();
        String far = " ".repeat(699) + "!";
        due.is("700 bytes", Due.tell(y, far), 1);
        due.is("at the last", y.fault(), 699);
        due.is("700 bytes, no ;", Due.tell(y, " ".repeat(688) + "house 1 0 0 "), 1);
        due.is("at the length", y.fault(), 700);
    }
}
