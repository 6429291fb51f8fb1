import java.util.ArrayList;
import java.util.Arrays;
import java.util.Collections;
import java.util.List;
import java.util.Random;

/**
 * What goes in where, who is matched, trades and plays for what: worked out in the longest way from the sizes,
 * from who is where and from what EASES gives, as the object itself answers them.
 */
public final class TablesTest {
    private static final Due due = new Due();
    private static final int NONE = HornHouses.NONE;

    private final String told;
    private final Play play;
    private final int houses;
    private final int people;
    private final int[] size;
    private final int[] heel;
    private final int[] home;
    private final boolean[] burst;
    private final int[] place;
    private final boolean[][] enters;

    // The best row of A MATCH so far.
    private int[] bestRow = {};
    private int bestLodge = 0;
    private int bestTight = 0;

    private TablesTest(Play play) {
        told = play.told();
        this.play = play;
        houses = play.town.size.length;
        people = play.town.heel.length;
        size = new int[houses];
        burst = new boolean[houses];
        place = new int[houses];
        heel = new int[people];
        home = new int[people];
        enters = new boolean[people][houses];
        for (int h = 0; h < houses; h++) {
            size[h] = play.x().house(h, 0);
            place[h] = play.x().house(h, 2);
            burst[h] = play.x().house(h, 5) == 1;
        }
        for (int p = 0; p < people; p++) {
            heel[p] = play.x().person(p, 0);
            home[p] = play.x().person(p, 2);
            for (int h = 0; h < houses; h++) {
                enters[p][h] = !burst[h] && tight(p, h) <= play.x().eases(p, h);
            }
        }
    }

    public static void main(String[] args) {
        int plays = args.length > 0 ? Integer.parseInt(args[0]) : 400;
        Random random = new Random(23);
        for (int i = 0; i < plays; i++) {
            Town town = Town.random(random);
            // Nine to the power of eight rows would take too long.
            while (town.size.length * town.heel.length > 30) {
                town = Town.random(random);
            }
            Play play = new Play(town);
            play.go(random, random.nextInt(9), 0);
            TablesTest test = new TablesTest(play);
            test.goingIn();
            test.putting();
            test.matching();
            test.trading();
            test.round();
            test.playing();
            test.neighbours();
        }
        due.end("TablesTest");
    }

    private void is(String what, long got, long want) {
        due.is(told + ": " + what, got, want);
    }

    private int tight(int person, int house) {
        return heel[person] > size[house] ? heel[person] - size[house] : 0;
    }

    // ---- going in

    private void goingIn() {
        due.says(0, "One GOES IN (with the horn), if TIGHT is what EASES gives, or less, kept to 0 to 30");
        for (int p = 0; p < people; p++) {
            int goes = 0;
            int free = NONE;
            for (int h = 0; h < houses; h++) {
                goes += enters[p][h] ? 1 << h : 0;
                boolean open = enters[p][h] && !in(h, home);
                free = open && (free == NONE || tight(p, h) < tight(p, free)) ? h : free;
            }
            is("goes " + p, play.x().goes(p), goes);
            is("free " + p, play.x().free(p), free);
        }
        for (int h = 0; h < houses; h++) {
            int heirs = 0;
            for (int p = 0; p < people; p++) {
                heirs += enters[p][h] ? 1 << p : 0;
            }
            is("heirs " + h, play.x().heirs(h), heirs);
        }
    }

    private static boolean in(int number, int[] row) {
        return Arrays.stream(row).anyMatch(n -> n == number);
    }

    private void putting() {
        due.says(0, "a PERSON who LODGES is PUT IN a HOUSE (if one GOES IN); one is let OUT (one LODGES)");
        for (int p = 0; p < people; p++) {
            HornHouses gone = play.make();
            is("out " + p, gone.out(p), home[p]);
            is("out " + p + " lodges", gone.person(p, 2), NONE);
            for (int h = 0; h < houses; h++) {
                HornHouses y = play.make();
                boolean can = home[p] == NONE && enters[p][h] && !in(h, home);
                is("putIn " + p + " " + h, y.putIn(p, h), can ? tight(p, h) : NONE);
                is("putIn " + p + " " + h + ": where", y.person(p, 2), can ? h : home[p]);
            }
            for (int q = 0; q < people; q++) {
                HornHouses y = play.make();
                boolean can = p != q && (home[p] != NONE || home[q] != NONE)
                    && (home[q] == NONE || enters[p][home[q]]) && (home[p] == NONE || enters[q][home[p]]);
                is("change " + p + " " + q, y.change(p, q) ? 1 : 0, can ? 1 : 0);
                is("change " + p + " " + q + ": one", y.person(p, 2), can ? home[q] : home[p]);
                is("change " + p + " " + q + ": other", y.person(q, 2), can ? home[p] : home[q]);
            }
        }
    }

    // ---- a match

    private void matching() {
        due.says(0, "how many LODGE; how much is TIGHT; the HOUSE of one: of like ones the first row");
        best(NONE);
        is("match 0", play.x().match(0), bestLodge);
        is("match 1", play.x().match(1), bestTight);
        for (int p = 0; p < people; p++) {
            is("matched " + p, play.x().matched(p), bestRow[p]);
        }
        int lodge = bestLodge;
        int needed = 0;
        for (int h = 0; h < houses; h++) {
            best(h);
            needed += bestLodge > lodge ? 1 << h : 0;
        }
        is("needed", play.x().count(9), needed);
    }

    private void best(int without) {
        bestRow = null;
        rows(new int[people], 0, without);
    }

    /** All rows, the first ones first: by people the house, to lodge behind all. */
    private void rows(int[] row, int p, int without) {
        if (p == people) {
            weigh(row);
            return;
        }
        for (int h = 0; h < houses; h++) {
            if (h != without && enters[p][h] && !in(h, Arrays.copyOf(row, p))) {
                row[p] = h;
                rows(row, p + 1, without);
            }
        }
        row[p] = NONE;
        rows(row, p + 1, without);
    }

    private void weigh(int[] row) {
        int lodge = 0;
        int tight = 0;
        for (int p = 0; p < people; p++) {
            lodge += row[p] == NONE ? 1 : 0;
            tight += row[p] == NONE ? 0 : tight(p, row[p]);
        }
        if (bestRow == null || lodge < bestLodge || lodge == bestLodge && tight < bestTight) {
            bestRow = row.clone();
            bestLodge = lodge;
            bestTight = tight;
        }
    }

    // ---- a trade

    private void trading() {
        due.says(0, "A TRADE of all who are in a HOUSE: again and again each of those who are left wants, of their HOUSES, that "
            + "whose SIZE differs least from one's own (of like ones the least)");
        int[] gets = new int[people];
        int[] ringed = new int[people];
        List<Integer> left = new ArrayList<>();
        for (int p = 0; p < people; p++) {
            gets[p] = NONE;
            if (home[p] != NONE) {
                left.add(p);
            }
        }
        while (!left.isEmpty()) {
            // Whoever one follows for long enough, one comes to stand in a ring.
            int at = left.get(0);
            for (int i = 0; i < 20; i++) {
                at = wanted(at, left);
            }
            List<Integer> ring = new ArrayList<>();
            for (int p = at; !ring.contains(p); p = wanted(p, left)) {
                ring.add(p);
            }
            for (int p : ring) {
                gets[p] = home[wanted(p, left)];
                ringed[p] = ring.size();
            }
            left.removeAll(ring);
        }
        for (int p = 0; p < people; p++) {
            is("trade " + p, play.x().trade(p), gets[p]);
            is("ringed " + p, play.x().ringed(p), ringed[p]);
        }
    }

    /** The one whose house is wanted. */
    private int wanted(int person, List<Integer> left) {
        int best = NONE;
        for (int p : left) {
            int differs = Math.abs(size[home[p]] - heel[person]);
            int least = best == NONE ? Integer.MAX_VALUE : Math.abs(size[home[best]] - heel[person]);
            if (differs < least || differs == least && home[p] < home[best]) {
                best = p;
            }
        }
        return best;
    }

    // ---- a round

    private void round() {
        due.says(0, "A ROUND of the man from a PLACE: the fewest steps by all PLACES of HOUSES in which somebody is TIGHT now");
        List<Integer> places = new ArrayList<>();
        for (int p = 0; p < people; p++) {
            if (home[p] != NONE && tight(p, home[p]) > 0) {
                places.add(place[home[p]]);
            }
        }
        for (int from = 0; from <= 30; from++) {
            is("round " + from, play.x().round(from), steps(from, places));
        }
    }

    /** He goes to the least of what is left, or to the greatest: nothing else saves steps. */
    private static int steps(int from, List<Integer> places) {
        if (places.isEmpty()) {
            return 0;
        }
        int fewest = Integer.MAX_VALUE;
        for (int place : new int[] {Collections.min(places), Collections.max(places)}) {
            List<Integer> left = new ArrayList<>(places);
            left.removeIf(p -> p >= Math.min(from, place) && p <= Math.max(from, place));
            fewest = Math.min(fewest, Math.abs(place - from) + steps(place, left));
        }
        return fewest;
    }

    // ---- a game

    private void playing() {
        due.says(0, "A GAME of two PEOPLE for a HOUSE: each goes for it, or doesn't (1, 0)");
        for (int p = 0; p < people; p++) {
            for (int q = 0; q < people; q++) {
                for (int h = 0; h < houses && p != q; h++) {
                    gameOf(p, q, h);
                }
            }
        }
    }

    private void gameOf(int p, int q, int h) {
        int alone = enters[p][h] ? 20 - tight(p, h) * 2 : -3;
        int otherAlone = enters[q][h] ? 20 - tight(q, h) * 2 : -3;
        boolean has = tight(p, h) < tight(q, h) || tight(p, h) == tight(q, h) && p < q;
        int[][] mine = {{2, 2}, {alone, has ? alone : -5}};
        int[][] theirs = {{2, otherAlone}, {2, has ? -5 : otherAlone}};
        int many = 0;
        int first = NONE;
        for (int a = 1; a >= 0; a--) {
            for (int b = 1; b >= 0; b--) {
                if (mine[1 - a][b] <= mine[a][b] && theirs[a][1 - b] <= theirs[a][b]) {
                    many++;
                    first = 10 * a + b;
                }
            }
        }
        is("game " + p + " " + q + " " + h + " 0", play.x().game(p, q, h, 0), many);
        is("game " + p + " " + q + " " + h + " 1", play.x().game(p, q, h, 1), first);
    }

    // ---- who is tightest, next door, larger

    private void neighbours() {
        due.says(0, "WHO is TIGHTEST now: the PERSON in a HOUSE who is most TIGHT (of like ones the least)");
        int tightest = NONE;
        int most = 0;
        for (int p = 0; p < people; p++) {
            int tight = home[p] == NONE ? 0 : tight(p, home[p]);
            is("person " + p + " 4", play.x().person(p, 4), tight);
            tightest = tight > most ? p : tightest;
            most = Math.max(most, tight);
            int larger = 0;
            for (int q = 0; q < people; q++) {
                larger += heel[q] > heel[p] ? 1 : 0;
            }
            is("larger " + p, play.x().larger(p), larger);
        }
        is("tightest", play.x().count(8), tightest);
        for (int h = 0; h < houses; h++) {
            int next = NONE;
            int room = 0;
            for (int g = houses - 1; g >= 0; g--) {
                boolean nearer = next == NONE || Math.abs(place[g] - place[h]) <= Math.abs(place[next] - place[h]);
                next = g != h && nearer ? g : next;
            }
            for (int p = 0; p < people; p++) {
                room += home[p] == h && size[h] > heel[p] ? size[h] - heel[p] : 0;
                int less = size[h] > heel[p] ? size[h] - heel[p] : 0;
                is("toStuff " + p + " " + h, play.x().toStuff(p, h), less > 20 ? NONE : less);
            }
            is("next door of " + h, play.x().house(h, 7), next);
            is("room of " + h, play.x().house(h, 6), room);
        }
    }
}
