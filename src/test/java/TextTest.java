/** Promises 2 to 4 and 8: the tape, the text's FAULTS and places, and what an EXPR gives. */
public final class TextTest {
    private static final Due due = new Due();

    public static void main(String[] args) {
        tape();
        town();
        tokens();
        houses();
        people();
        damp();
        secondLines();
        partsOfExpressions();
        depth();
        nots();
        values();
        due.end("TextTest");
    }

    private static void fault(String text, int code, int place) {
        HornHouses x = new HornHouses();
        due.is("town of '" + text + "'", Due.tell(x, text), code);
        due.is("fault of '" + text + "'", x.fault(), place);
        due.is("status of '" + text + "'", x.count(13), code == 0 ? 0 : 1);
    }

    private static void right(String text) {
        fault(text, 0, -1);
    }

    private static void tape() {
        HornHouses x = new HornHouses();
        due.is("no bytes", x.count(12), 0);
        for (int i = 1; i <= 35; i++) {
            due.is("feed " + i, x.feed(0x20202020, 0x20202020, 0x0a202020, 0x20202020, 0x20202020), 20 * i);
        }
        due.is("feed above 700", x.feed(0, 0, 0, 0, 0), -1);
        due.is("none came", x.count(12), 700);
        due.is("blanks alone", x.town(700), 0);
        due.is("empty then", x.count(12), 0);
        // The highest byte comes first: "hous" "e 7 " "8 9;" and blanks.
        x.feed(0x686f7573, 0x65203720, 0x3820393b, 0x20202020, 0x20202020);
        due.is("town", x.town(12), 0);
        due.is("size", x.house(0, 0), 7);
        due.is("give", x.house(0, 1), 8);
        due.is("place", x.house(0, 2), 9);
    }

    private static void town() {
        HornHouses x = Due.town("house 20 2 0;person 25 1 in 0;");
        x.letIn();
        x.see(0, 1, 5);
        x.image();
        Due.feed(x, "house 5 5 5;");
        due.bad("more than there are", () -> x.town(21));
        due.bad("below 0", () -> x.town(-1));
        due.is("the tape stays", x.count(12), 20);
        due.is("no fault yet", x.fault(), -1);
        due.is("a cut off text", x.town(11), 1);
        due.is("its end", x.fault(), 11);
        due.is("all stays: houses", x.house(0, 0), 20);
        due.is("all stays: acts", x.count(10), 1);
        due.is("all stays: seen", x.count(11), 1);
        due.is("all stays: damp let in", x.count(3), 9);
        due.is("all stays: image", x.restore(), true);
        due.is("the tape is empty", x.count(12), 0);
        due.is("status", x.count(13), 1);
        x.days(2);
        x.stuff(0, 0);
        x.see(0, 21, 0);
        Due.feed(x, "house 5 5 5;");
        due.bad("nothing changes", () -> x.town(99));
        due.is("the fault's place stays", x.fault(), 11);
        due.is("another town", x.town(12), 0);
        due.is("no fault", x.fault(), -1);
        due.is("houses anew", x.house(0, 0), 5);
        due.is("nobody", x.count(1), 0);
        due.is("the day", x.count(2), 0);
        due.is("no damp let in", x.count(3), 3);
        due.is("no acts", x.count(10), 0);
        due.is("nothing seen", x.count(11), 0);
        due.is("no image", x.restore(), false);
        due.is("status 0 stays", x.count(13), 1);
        due.is("status 1 stays", x.count(14), 1);
        due.is("status 2 stays", x.count(15), 1);
        due.is("an empty text", x.town(0), 0);
        due.is("no houses", x.count(0), 0);
        HornHouses two = Due.town("house 20 2 0;");
        Due.feed(two, "person 1 1;;");
        due.is("only the first bytes count", two.town(11), 0);
        due.is("of them", two.count(1), 1);
        due.is("the rest is gone", two.count(12), 0);
    }

    private static void tokens() {
        right("");
        right(" \n ");
        right("house1 2 3;person4 5in0;");
        right("house\n01\n0002\n3\n;");
        fault("houses 1 2 3;", 1, 0);
        fault("hous e 1 2 3;", 1, 0);
        fault("mouse 1 2 3;", 1, 0);
        fault("eases heal;", 3, 6);
        fault("eases keel;", 3, 6);
        fault("house 1 2 3", 1, 11);
        fault("house 1 2 3  ", 1, 13);
        fault("house", 1, 5);
        fault("House 1 2 3;", 1, 0);
        fault("house 1\t2 3;", 1, 7);
        fault("house 1\r2 3;", 1, 7);
        fault("house 1 2 3,", 1, 11);
        fault("house 1 2 3;;", 1, 12);
        fault("house -1 2 3;", 1, 6);
        fault(" ;", 1, 1);
        fault("7;", 1, 0);
        fault("in 0;", 1, 0);
        fault("\u00e9", 1, 0);
        fault("house 1 2 3; \u00fb", 1, 13);
        fault("house 1 2 \u00b3;", 1, 10);
        fault("house 1 2 3;A", 1, 12);
    }

    private static void houses() {
        right("house 60 9 30;house 1 0 0;");
        fault("house 0 0 0;", 2, 6);
        fault("house 61 0 0;", 2, 6);
        fault("house 1 10 0;", 2, 8);
        fault("house 1 0 31;", 2, 10);
        fault("house 00001 0 0;", 2, 6);
        fault("house 1 00000 0;", 2, 8);
        fault("house 0001 0 0000;house 1 0 99999;", 2, 28);
        fault("house 1 2 3 4;", 1, 12);
        fault("house 1 2 3 99999;", 1, 12);
        fault("house heel 0 0;", 1, 6);
        String eight = "house 1 1 1;".repeat(8);
        right(eight);
        fault(eight + "house 1 1 1;", 2, 96);
        fault(eight + "house x", 2, 96);
        fault(eight + "houses", 1, 96);
    }

    private static void people() {
        String house = "house 9 0 0;";
        right(house + "person 60 9 in 0;person 1 0;");
        fault("person 0 0;", 2, 7);
        fault("person 61 0;", 2, 7);
        fault("person 1 10;", 2, 9);
        fault("person 1 00000;", 2, 9);
        fault("person 1;", 1, 8);
        fault("person 1 0 0;", 1, 11);
        fault("person 1 0 inn 0;", 1, 11);
        fault("person 1 0 in;", 1, 13);
        fault("person 1 0 in in 0;", 1, 14);
        fault("person 1 0 in 0;", 3, 14);
        fault(house + "person 1 0 in 1;", 3, 26);
        fault(house + "person 1 0 in 9999;", 3, 26);
        fault(house + "person 1 0 in 00000;", 2, 26);
        fault("person 1 0 in 0;" + house, 3, 14);
        right(house + "person 1 0 in 0000;");
        fault(house + "person 1 0 in 0;person 1 0 in 0;", 4, 42);
        fault(house + "person 1 0 in 0;person 1 0 in 0 0;", 4, 42);
        fault(house + "person 1 0 in 0 0;", 1, 28);
        right(house + house + "person 1 0 in 1;person 1 0 in 0;person 1 0;");
        String eight = "person 1 1;".repeat(8);
        right(eight);
        fault(eight + "person 1 1;", 2, 88);
    }

    private static void damp() {
        right("damp 0;");
        right("damp 9 8 7 6 5 4 3 2;");
        fault("damp;", 1, 4);
        fault("damp 10;", 2, 5);
        fault("damp 1 10;", 2, 7);
        fault("damp 1 00000;", 2, 7);
        fault("damp 1 heel;", 1, 7);
        fault("damp 1 2 3 4 5 6 7 8 9;", 2, 21);
        fault("damp 1 2 3 4 5 6 7 8 x;", 1, 21);
        fault("damp 1 2 3 4 5 6 7 8", 1, 20);
        HornHouses x = Due.town("damp 4 5 6;");
        due.is("damp of day 0", x.count(3), 4);
        x.days(5);
        due.is("damp of day 5", x.count(3), 6);
        x.days(1);
        due.is("damp of day 6", x.count(3), 4);
        due.is("damp without", Due.town("house 1 1 1;").count(3), 3);
    }

    private static void secondLines() {
        fault("damp 1;damp 1;", 5, 7);
        fault("eases 1;eases 1;", 5, 8);
        fault("bursts 1;bursts 1;", 5, 9);
        fault("bursts 1;eases 0;damp 1;eases", 5, 24);
        right("eases 1;bursts 1;damp 1;");
    }

    private static void partsOfExpressions() {
        right("eases heel+size*give-worn/damp;");
        right("eases day<9999 and not 0=1 or 2;");
        right("bursts tight;");
        fault("eases tight;", 3, 6);
        fault("bursts 0;eases 1+tight;", 3, 17);
        fault("eases;", 1, 5);
        fault("eases", 1, 5);
        fault("eases 1", 1, 7);
        fault("eases 1+;", 1, 8);
        fault("eases +1;", 1, 6);
        fault("eases 1 2;", 1, 8);
        fault("eases 1 heel;", 1, 8);
        fault("eases heel heel;", 1, 11);
        fault("eases 1 not 1;", 1, 8);
        fault("eases 10000;", 2, 6);
        fault("eases 1*00001;", 2, 8);
        fault("eases 1 10000;", 1, 8);
        fault("eases house;", 3, 6);
        fault("eases and;", 3, 6);
        fault("eases 1 or or 1;", 3, 11);
        fault("eases 1+not 1;", 3, 8);
        fault("eases 1<not 1;", 3, 8);
        fault("eases 1*eases;", 3, 8);
        fault("eases not and 1;", 3, 10);
        fault("eases 1<2<3;", 1, 9);
        fault("eases 1=2<3;", 1, 9);
        fault("eases not 1=2=3;", 1, 13);
        right("eases (1<2)<3;");
        right("eases 1<2 and 3<4 or 5=6;");
        fault("eases ();", 1, 7);
        fault("eases (1;", 1, 8);
        fault("eases (1", 1, 8);
        fault("eases 1);", 1, 7);
        fault("eases (1));", 1, 9);
        fault("eases (1)(2);", 1, 9);
        fault("eases (1) 2;", 1, 10);
        fault("eases 1 < ;", 1, 10);
        fault("eases 1 == 1;", 1, 9);
        fault("eases 1 and;", 1, 11);
        fault("eases 1 > 1;", 1, 8);
        fault("eases 1 eases 2;", 1, 8);
    }

    private static void depth() {
        right("eases (((((1)))));");
        fault("eases ((((((1))))));", 2, 12);
        fault("eases ((((((heel))))));", 2, 12);
        fault("eases ((((((tight))))));", 2, 12);
        fault("eases ((((((house))))));", 2, 12);
        fault("eases ((((((not 1))))));", 2, 12);
        fault("eases (((((((1)))))));", 2, 12);
        fault("eases ((((((99999))))));", 2, 12);
        fault("eases (((((( 1))))));", 2, 13);
        fault("eases (((((();", 1, 12);
        fault("eases (((((()))))));", 1, 12);
        fault("eases ((((((+", 1, 12);
        fault("eases ((((((", 1, 12);
        fault("eases ((((((!", 1, 12);
        right("eases (((((1)))))+(((((2)))));");
        fault("bursts 1+(2*(3-(4/(5<(6=(7))))));", 2, 25);
        right("bursts 1+(2*(3-(4/(5<(6=7)))));");
    }

    private static void nots() {
        right("eases not not not not not not 1;");
        fault("eases not not not not not not not 1;", 2, 30);
        fault("eases not not not not not not", 1, 29);
        right("eases not not not not not not 1 and not not not not not not 1;");
        right("eases not not not not not not (not not not not not not 1);");
        fault("eases not not not not not not nots;", 3, 30);
    }

    /** What EASES gives of a person of 13 and a house of 11, give 4, place 0, damp 5, day 0. */
    private static int gives(String expression) {
        return Due.town("house 11 4 0;person 13 0;damp 5;eases " + expression + ";").eases(0, 0);
    }

    private static void values() {
        due.is("heel", gives("heel"), 13);
        due.is("size", gives("size"), 11);
        due.is("give", gives("give"), 4);
        due.is("worn", gives("worn"), 0);
        due.is("damp", gives("damp"), 5);
        due.is("day", gives("day"), 0);
        due.is("kept to 30", gives("31"), 30);
        due.is("30", gives("30"), 30);
        due.is("kept to 0", gives("0-1"), 0);
        due.is("from the left", gives("20-3-4"), 13);
        due.is("from the left", gives("20/3*4"), 24);
        due.is("from the left", gives("20-3+4"), 21);
        due.is("products first", gives("2+3*4"), 14);
        due.is("parentheses", gives("(2+3)*4"), 20);
        due.is("cut down to 0", gives("7+(0-7)/2"), 4);
        due.is("by 0", gives("5+9/0"), 5);
        due.is("by worn", gives("5+9/worn"), 5);
        due.is("wraps to more than 30", gives("9999*9999*9999"), wrapped(9999 * 9999 * 9999));
        due.is("wraps", gives("(9999*9999*22-9999*9999*43)/99999999"
            .replace("99999999", "(9999*9999)")), wrapped((9999 * 9999 * 22 - 9999 * 9999 * 43) / (9999 * 9999)));
        due.is("the least by -1", gives("(0-8192*8192*32)/(0-1)+7"), wrapped(Integer.MIN_VALUE + 7));
        due.is("the least by -1 back", gives("(0-8192*8192*32)/(0-1)-8192*8192*32+7"), 7);
        due.is("below", gives("10*(1<2)+(2<2)+5*(3<2)"), 10);
        due.is("like", gives("10*(1=2)+(2=2)+5*(3=2)"), 1);
        due.is("sums ahead of tests", gives("1+1<3"), 1);
        due.is("sums ahead of tests", gives("3=1+1"), 0);
        due.is("not", gives("10*(not 0)+(not 7)"), 10);
        due.is("not of a test", gives("not 1<2"), 0);
        due.is("not twice", gives("not not 9"), 1);
        due.is("not thrice", gives("not not not 9"), 0);
        due.is("and", gives("1*(5 and 7)+2*(5 and 0)+4*(0 and 5)+8*(0 and 0)"), 1);
        due.is("or", gives("1*(5 or 7)+2*(5 or 0)+4*(0 or 5)+8*(0 or 0)"), 7);
        due.is("what isn't 0 holds", gives("(0-5) and (0-1)"), 1);
        due.is("and ahead of or", gives("1 or 0 and 0"), 1);
        due.is("and ahead of or", gives("0 and 0 or 1"), 1);
        due.is("not ahead of and", gives("not 0 and 0"), 0);
        due.is("alone as it is", gives("(((7)))"), 7);
        String most = "0 or 1 and 0<0+1*";
        String within = "(" + most;
        due.is("all open in all", gives(most + within.repeat(5) + "give" + ")".repeat(5)), 1);
        due.is("all open in all", gives(most + within.repeat(5) + "worn" + ")".repeat(5)), 0);
        due.is("all open in all", gives("7 or 1 and 0<0+1*" + within.repeat(5) + "0-4" + ")".repeat(5)), 1);
        due.is("all at once", gives("1+(1+(1+(1+(1+(1*1+0<2 and 1 or 0)))))"), 6);
    }

    private static int wrapped(int n) {
        return Math.max(0, Math.min(30, n));
    }
}
