import java.util.ArrayList;
import java.util.List;
import java.util.Random;

/** A town as it is told, so that a test can tell it again with something changed. */
final class Town {
    static final int NONE = HornHouses.NONE;

    int[] size = {};
    int[] give = {};
    int[] place = {};
    int[] heel = {};
    int[] grows = {};
    int[] home = {};
    /** Of no numbers: without. */
    int[] damp = {};
    /** Empty: without. */
    String eases = "";
    String bursts = "";

    Town copy() {
        Town other = new Town();
        other.size = size.clone();
        other.give = give.clone();
        other.place = place.clone();
        other.heel = heel.clone();
        other.grows = grows.clone();
        other.home = home.clone();
        other.damp = damp.clone();
        other.eases = eases;
        other.bursts = bursts;
        return other;
    }

    String text() {
        StringBuilder text = new StringBuilder();
        for (int h = 0; h < size.length; h++) {
            text.append("house ").append(size[h]).append(' ').append(give[h]).append(' ').append(place[h]).append(';');
        }
        for (int p = 0; p < heel.length; p++) {
            text.append("person ").append(heel[p]).append(' ').append(grows[p]);
            text.append(home[p] == NONE ? "" : " in " + home[p]).append(';');
        }
        for (int i = 0; i < damp.length; i++) {
            text.append(i == 0 ? "damp " : " ").append(damp[i]).append(i == damp.length - 1 ? ";" : "");
        }
        text.append(eases.isEmpty() ? "" : "eases " + eases + ";");
        text.append(bursts.isEmpty() ? "" : "bursts " + bursts + ";");
        return text.toString();
    }

    HornHouses make() {
        return Due.town(text());
    }

    static Town random(Random random) {
        Town town = new Town();
        int houses = random.nextInt(12) == 0 ? 0 : 1 + random.nextInt(random.nextBoolean() ? 8 : 4);
        int people = random.nextInt(12) == 0 ? 0 : 1 + random.nextInt(random.nextBoolean() ? 8 : 4);
        int base = 1 + random.nextInt(45);
        int spread = 1 + random.nextInt(20);
        int larger = random.nextInt(12);
        town.size = row(random, houses, base, spread, 60);
        town.give = row(random, houses, 0, random.nextBoolean() ? 10 : 3, 9);
        town.place = row(random, houses, 0, 31, 30);
        town.heel = row(random, people, base + larger, spread, 60);
        town.grows = row(random, people, 0, random.nextBoolean() ? 3 : 10, 9);
        town.home = homes(random, houses, people);
        town.damp = row(random, random.nextInt(9), 0, 10, 9);
        town.eases = random.nextInt(3) == 0 ? "" : rule(random, false);
        town.bursts = random.nextInt(3) == 0 ? "" : rule(random, true);
        return town;
    }

    private static int[] row(Random random, int many, int least, int spread, int most) {
        int[] row = new int[many];
        for (int i = 0; i < many; i++) {
            row[i] = Math.min(most, least + random.nextInt(spread));
        }
        return row;
    }

    private static int[] homes(Random random, int houses, int people) {
        List<Integer> left = new ArrayList<>();
        for (int h = 0; h < houses; h++) {
            left.add(h);
        }
        int[] homes = new int[people];
        for (int p = 0; p < people; p++) {
            boolean lodges = left.isEmpty() || random.nextInt(4) == 0;
            homes[p] = lodges ? NONE : left.remove(random.nextInt(left.size()));
        }
        return homes;
    }

    private static String rule(Random random, boolean ofBursts) {
        String[] easing = {"give+damp+N", "N-day*2+damp", "damp*3-worn/N", "(heel-size<N)*12+give", "worn/3+damp-day",
            "(heel=size+N or damp<4)*9", "N", "size-N", "give*damp-heel/5", "not (day<3)*N and 7<damp"};
        String[] bursting = {"tight-N", "tight*2+damp-N-give", "worn-N*2+damp", "N/2<damp and N<worn+tight",
            "(heel-size-N)*(damp<5)", "day-N", "not (tight<N) or worn=N", "worn/N-2-give/3", "damp-8"};
        String[] from = ofBursts ? bursting : easing;
        return from[random.nextInt(from.length)].replace("N", String.valueOf(1 + random.nextInt(18)));
    }
}
