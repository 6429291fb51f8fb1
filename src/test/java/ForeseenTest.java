import java.util.Random;

/**
 * What a call foresees, if only days go by, is what comes, if days do go by: objects with like acts behind
 * them live through the days one by one, and their plain answers are held against what was foreseen.
 */
public final class ForeseenTest {
    private static final Due due = new Due();
    private static final int NONE = HornHouses.NONE;
    private static final int FAR = 40;

    private final Play play;
    private final String told;
    private final int houses;
    private final int people;
    /** By the days that have gone by. */
    private final int[][] heel = new int[FAR + 1][];
    private final int[][] where = new int[FAR + 1][];
    private final int[][] blisters = new int[FAR + 1][];
    private final int[][] worn = new int[FAR + 1][];
    private final int[][] goes = new int[FAR + 1][];
    private final int[][][] eases = new int[FAR + 1][][];
    private final int[] burst = new int[FAR + 1];
    private final int[] damp = new int[FAR + 1];
    private final int[] lodge = new int[FAR + 1];
    private final int[] sore = new int[FAR + 1];

    private ForeseenTest(Play play) {
        this.play = play;
        told = play.told();
        houses = play.town.size.length;
        people = play.town.heel.length;
        for (int d = 0; d <= FAR; d++) {
            HornHouses y = play.make();
            for (int gone = 0; gone < d; gone++) {
                y.days(1);
            }
            look(y, d);
        }
    }

    private void look(HornHouses y, int d) {
        heel[d] = new int[people];
        where[d] = new int[people];
        blisters[d] = new int[people];
        goes[d] = new int[people];
        eases[d] = new int[people][houses];
        worn[d] = new int[houses];
        for (int p = 0; p < people; p++) {
            heel[d][p] = y.person(p, 0);
            where[d][p] = y.person(p, 2);
            blisters[d][p] = y.person(p, 3);
            goes[d][p] = y.goes(p);
            for (int h = 0; h < houses; h++) {
                eases[d][p][h] = y.eases(p, h);
            }
        }
        for (int h = 0; h < houses; h++) {
            worn[d][h] = y.house(h, 3);
        }
        burst[d] = y.count(4);
        damp[d] = y.count(3);
        lodge[d] = y.count(6);
        sore[d] = y.count(7);
    }

    public static void main(String[] args) {
        int plays = args.length > 0 ? Integer.parseInt(args[0]) : 150;
        due.says(0, "(If only DAYS go by, from now on:)");
        Random random = new Random(50);
        for (int i = 0; i < plays; i++) {
            Play play = new Play(Town.random(random));
            play.go(random, random.nextInt(9), 0);
            ForeseenTest test = new ForeseenTest(play);
            test.people();
            test.houses();
            test.all();
            test.pairs();
            test.enduring();
        }
        due.end("ForeseenTest");
    }

    private void is(String what, long got, long want) {
        due.is(told + ": " + what, got, want);
    }

    // ---- asked of one

    private void people() {
        for (int p = 0; p < people; p++) {
            int wriggles = NONE;
            for (int d = FAR; d >= 0; d--) {
                is("then " + p + " " + d + " 0", play.x().then(p, d, 0), heel[d][p]);
                is("then " + p + " " + d + " 1", play.x().then(p, d, 1), where[d][p]);
                is("then " + p + " " + d + " 2", play.x().then(p, d, 2), blisters[d][p]);
                wriggles = blisters[d][p] > blisters[0][p] ? d : wriggles;
            }
            is("wriggles " + p, play.x().wriggles(p), wriggles);
        }
    }

    private void houses() {
        int last = NONE;
        int lastDays = 0;
        for (int h = 0; h < houses; h++) {
            int bursts = NONE;
            for (int d = FAR; d >= 0; d--) {
                is("worn " + h + " " + d, play.x().worn(h, d), worn[d][h]);
                bursts = (burst[d] >> h & 1) == 1 ? d : bursts;
            }
            is("burst " + h, play.x().burst(h), bursts);
            int later = bursts == NONE ? FAR + 1 : bursts;
            if (play.x().house(h, 4) != NONE && later > lastDays) {
                last = h;
                lastDays = later;
            }
        }
        is("last 0", play.x().last(0), last);
        is("last 1", play.x().last(1), last == NONE || lastDays > FAR ? NONE : lastDays);
    }

    private void all() {
        int dampest = 0;
        for (int d = 0; d <= FAR; d++) {
            is("barefoot " + d, play.x().barefoot(d), lodge[d]);
            is("paid " + d, play.x().paid(d), sore[d] - sore[0]);
            is("wornest " + d, play.x().wornest(d), most(worn[d]));
            is("sorest " + d, play.x().sorest(d), most(blisters[d]));
            int kept = 0;
            for (int p = 0; p < people; p++) {
                kept |= where[0][p] != NONE && where[d][p] == where[0][p] ? 1 << p : 0;
            }
            is("kept " + d, play.x().kept(d), kept);
            if (d > 0) {
                is("dampest " + d, play.x().dampest(d), dampest);
            }
            dampest = damp[d] > damp[dampest] ? d : dampest;
        }
    }

    private static int most(int[] row) {
        int most = row.length == 0 ? NONE : 0;
        for (int i = 1; i < row.length; i++) {
            most = row[i] > row[most] ? i : most;
        }
        return most;
    }

    // ---- asked of a person and a house

    private void pairs() {
        for (int p = 0; p < people; p++) {
            for (int h = 0; h < houses; h++) {
                int waits = NONE;
                int grows = NONE;
                for (int d = FAR; d >= 0; d--) {
                    waits = (goes[d][p] >> h & 1) == 1 ? d : waits;
                    grows = heel[d][p] >= play.x().house(h, 0) ? d : grows;
                }
                is("toWait " + p + " " + h, play.x().toWait(p, h), waits);
                is("toGrow " + p + " " + h, play.x().toGrow(p, h), grows);
                int best = 0;
                for (int days = 1; days <= FAR; days++) {
                    is("eased " + p + " " + h + " " + days, play.x().eased(p, h, days), best);
                    best = eases[days][p][h] > eases[best][p][h] ? days : best;
                }
            }
        }
    }

    /** Where one goes in, acts can put one there. */
    private void enduring() {
        for (int p = 0; p < people; p++) {
            for (int h = 0; h < houses; h++) {
                if ((goes[0][p] >> h & 1) == 1) {
                    HornHouses y = play.make();
                    if (y.house(h, 4) != NONE) {
                        y.out(y.house(h, 4));
                    }
                    if (y.person(p, 2) != NONE) {
                        y.out(p);
                    }
                    is("put in " + p + " " + h, y.putIn(p, h), Math.max(0, heel[0][p] - y.house(h, 0)));
                    is("endures " + p + " " + h, play.x().endures(p, h), y.burst(h));
                }
            }
        }
    }
}
