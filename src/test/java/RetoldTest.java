import java.util.ArrayList;
import java.util.List;
import java.util.Random;
import java.util.Set;
import java.util.TreeSet;

/**
 * What would be, were something otherwise, is what is, when the town is told so: on day 0, when nothing is
 * worn yet, any state can be told as a text of its own.
 */
public final class RetoldTest {
    private static final Due due = new Due();
    private static final int NONE = HornHouses.NONE;

    private final Random random;
    private final String told;
    private final Play play;
    private final int houses;
    private final int people;
    /** The state as a text tells it, but for damp that is let in. */
    private final Town now;
    private final boolean letIn;

    private RetoldTest(Random random, Play play) {
        this.random = random;
        told = play.told();
        this.play = play;
        houses = play.town.size.length;
        people = play.town.heel.length;
        now = play.town.copy();
        for (int h = 0; h < houses; h++) {
            now.size[h] = play.x().house(h, 0);
        }
        for (int p = 0; p < people; p++) {
            now.home[p] = play.x().person(p, 2);
        }
        // It is let in already, if it can't be let in once more.
        letIn = play.make().letIn() == NONE;
    }

    public static void main(String[] args) {
        int plays = args.length > 0 ? Integer.parseInt(args[0]) : 150;
        Random random = new Random(31);
        for (int i = 0; i < plays; i++) {
            Play play = new Play(Town.random(random));
            play.go(random, random.nextInt(7), 1);
            RetoldTest test = new RetoldTest(random, play);
            test.asTold();
            test.enduring();
            test.sights();
            test.byDamp();
            test.years();
        }
        due.end("RetoldTest");
    }

    private void is(String what, long got, long want) {
        due.is(told + ": " + what, got, want);
    }

    private HornHouses make(Town town) {
        HornHouses y = town.make();
        if (letIn) {
            y.letIn();
        }
        return y;
    }

    private void asTold() {
        HornHouses y = make(now);
        for (int what = 0; what < 10; what++) {
            is("count " + what, play.x().count(what), y.count(what));
        }
        for (int h = 0; h < houses; h++) {
            for (int what = 0; what < 8; what++) {
                is("house " + h + " " + what, play.x().house(h, what), y.house(h, what));
            }
        }
    }

    private void enduring() {
        due.says(0, "ENDURES: were a PERSON in a HOUSE now (who is in it LODGING, one's own HOUSE left; whether one GOES "
            + "IN doesn't count): in how many DAYS (1 to 40) it is BURST, if only these go by");
        for (int p = 0; p < people; p++) {
            for (int h = 0; h < houses; h++) {
                Town other = now.copy();
                for (int q = 0; q < people; q++) {
                    other.home[q] = other.home[q] == h ? NONE : other.home[q];
                }
                other.home[p] = h;
                is("endures " + p + " " + h, play.x().endures(p, h), make(other).burst(h));
            }
        }
    }

    // ---- what is seen

    private void sights() {
        due.says(0, "LARGE: PEOPLE and SIZES (1 to 60, another one than one has) by one of which now all SEEN would be so");
        HornHouses y = make(now);
        int[][] seen = new int[houses == 0 ? 0 : random.nextInt(4)][];
        for (int i = 0; i < seen.length; i++) {
            int h = random.nextInt(houses);
            int days = random.nextInt(5);
            seen[i] = new int[] {h, days, random.nextInt(8) == 0 ? random.nextInt(100) : supposed().worn(h, days)};
            is("see", y.see(h, days, seen[i][2]), i + 1);
        }
        int many = 0;
        int first = NONE;
        List<Set<Integer>> worn = rows(houses);
        for (int p = 0; p < people; p++) {
            for (int size = 1; size <= 60; size++) {
                HornHouses z = make(resized(p, size));
                if (size != now.heel[p] && fits(z, seen)) {
                    many++;
                    first = first == NONE ? 100 * p + size : first;
                    for (int h = 0; h < houses; h++) {
                        worn.get(h).add(z.worn(h, 5));
                    }
                }
            }
        }
        is("large 0", y.large(0), many);
        is("large 1", y.large(1), first);
        is("large 2", y.large(2), fits(play.x(), seen) ? 1 : 0);
        due.says(0, "THE NEXT SILL: the HOUSE of which WORN in 5 DAYS by these would be most unlike");
        int sill = NONE;
        for (int h = 0; h < houses; h++) {
            int most = sill == NONE ? 0 : worn.get(sill).size();
            sill = worn.get(h).size() > most ? h : sill;
        }
        is("next 0", y.next(0), sill);
        is("next 1", y.next(1), sill == NONE ? 0 : worn.get(sill).size());
    }

    /** As it is, or with somebody of another size: then what is seen there tells of it. */
    private HornHouses supposed() {
        if (people == 0 || random.nextInt(3) == 0) {
            return make(now);
        }
        return make(resized(random.nextInt(people), 1 + random.nextInt(60)));
    }

    private Town resized(int person, int size) {
        Town other = now.copy();
        other.heel[person] = size;
        return other;
    }

    private static boolean fits(HornHouses z, int[][] seen) {
        for (int[] sight : seen) {
            if (z.worn(sight[0], sight[1]) != sight[2]) {
                return false;
            }
        }
        return true;
    }

    private static List<Set<Integer>> rows(int many) {
        List<Set<Integer>> rows = new ArrayList<>();
        for (int i = 0; i < many; i++) {
            rows.add(new TreeSet<>());
        }
        return rows;
    }

    // ---- damp that is otherwise

    private void byDamp() {
        due.says(0, "BY DAMP: on each of so many DAYS (1 to 5) DAMP is 9 with so many tenths (0 to 10), else 0: how likely a "
            + "HOUSE is BURST behind them: as so many of 10 to the power of these DAYS");
        for (int h = 0; h < houses; h++) {
            int days = 1 + random.nextInt(5);
            int tenths = random.nextInt(11);
            long likely = 0;
            for (int way = 0; way < Math.pow(2, days); way++) {
                Town other = now.copy();
                other.damp = new int[days];
                long weight = 1;
                for (int d = 0, left = way; d < days; d++, left /= 2) {
                    other.damp[d] = left % 2 == 0 ? 0 : 9;
                    weight *= left % 2 == 0 ? 10 - tenths : tenths;
                }
                int burst = other.make().burst(h);
                likely += burst != NONE && burst <= days ? weight : 0;
            }
            is("byDamp " + h + " " + days + " " + tenths, play.x().byDamp(h, days, tenths), likely);
        }
    }

    private void years() {
        due.says(0, "YEARS by a seed: n DAYS (0 to 40) from now on: DAMP of each is a DRAW of 10; behind that DRAW a DRAW of "
            + "PEOPLE, a DRAW of HOUSES: if that one LODGES, and would GO IN there, and nobody is there, it is PUT IN; then "
            + "the DAY goes by: how many HOUSES are BURST at the end; BLISTERS of all; how many LODGE");
        // No more than a text has numbers of damp.
        int n = random.nextInt(9);
        int seed = random.nextInt();
        Town other = now.copy();
        other.damp = new int[n];
        int[] who = new int[n];
        int[] where = new int[n];
        int drawn = seed;
        for (int d = 0; d < n; d++) {
            drawn = after(drawn);
            other.damp[d] = bits(drawn) % 10;
            if (people > 0 && houses > 0) {
                drawn = after(drawn);
                who[d] = bits(drawn) % people;
                drawn = after(drawn);
                where[d] = bits(drawn) % houses;
            }
        }
        HornHouses y = other.make();
        for (int d = 0; d < n; d++) {
            if (people > 0 && houses > 0) {
                // It is refused, if one doesn't lodge, or go in, or if somebody is there.
                y.putIn(who[d], where[d]);
            }
            y.days(1);
        }
        is("years " + seed + " " + n + " 0", play.x().years(seed, n, 0), Integer.bitCount(y.count(4)));
        is("years " + seed + " " + n + " 1", play.x().years(seed, n, 1), y.count(7));
        is("years " + seed + " " + n + " 2", play.x().years(seed, n, 2), Integer.bitCount(y.count(6)));
    }

    private static int after(int seed) {
        return (int) (seed * 1103515245L + 12345L);
    }

    private static int bits(int seed) {
        return (int) ((seed & 0xffffffffL) / 65536 % 32768);
    }
}
