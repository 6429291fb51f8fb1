import java.util.ArrayList;
import java.util.List;
import java.util.Random;

/** A town and the acts behind it: it makes as many like objects as a test needs. */
final class Play {
    static final int NONE = HornHouses.NONE;

    /** What an object answers is promised for 512 calls, those that made it counted. */
    private static final int ASKED = 400;

    final Town town;
    private final List<int[]> acts = new ArrayList<>();
    private HornHouses asked = null;
    private int times = 0;

    Play(Town town) {
        this.town = town;
    }

    HornHouses make() {
        HornHouses x = town.make();
        for (int[] act : acts) {
            act(x, act);
        }
        return x;
    }

    /** An object to ask one thing of; when it has answered much, another one, like it, takes its place. */
    HornHouses x() {
        if (times % ASKED == 0) {
            asked = make();
        }
        times++;
        return asked;
    }

    private static void act(HornHouses x, int[] act) {
        switch (act[0]) {
            case 0: x.days(act[1]); break;
            case 1: x.putIn(act[1], act[2]); break;
            case 2: x.out(act[1]); break;
            case 3: x.stuff(act[1], act[2]); break;
            case 4: x.change(act[1], act[2]); break;
            default: x.letIn();
        }
    }

    /** Some acts more; those that are refused do no harm. From the least kind on: 0 is that days go by. */
    void go(Random random, int many, int leastKind) {
        int houses = town.size.length;
        int people = town.heel.length;
        for (int i = 0; i < many; i++) {
            int kind = leastKind + random.nextInt(6 - leastKind);
            boolean can = kind == 0 || kind == 5 || houses > 0 && people > 0;
            if (can && (kind != 5 || random.nextInt(3) == 0)) {
                int p = people > 0 ? random.nextInt(people) : 0;
                int h = houses > 0 ? random.nextInt(houses) : 0;
                int first = kind == 0 ? 1 + random.nextInt(4) : kind == 3 ? h : p;
                int second = kind == 3 ? 1 + random.nextInt(5) : kind == 4 ? random.nextInt(people) : h;
                acts.add(new int[] {kind, first, second});
            }
        }
    }

    String told() {
        StringBuilder told = new StringBuilder(town.text());
        for (int[] act : acts) {
            told.append(' ').append(act[0]).append(':').append(act[1]).append(',').append(act[2]);
        }
        return told.toString();
    }
}
