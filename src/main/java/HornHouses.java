import java.util.Arrays;
import java.util.NoSuchElementException;

/**
 * Houses that are handed down and don't fit, people who grow, and a man who gets them in with a
 * horn. The words in capitals of the document are told in the names: a HOUSE's SIZE is size, a
 * PERSON's SIZE is heel.
 */
public final class HornHouses {
    public static final int NONE = -1;

    /** At most so many HOUSES, PEOPLE, numbers of DAMP and things SEEN. */
    private static final int MOST = 8;
    private static final int TAPE_BYTES = 700;
    private static final int FED_BYTES = 20;
    private static final int ACTS_KEPT = 40;
    private static final int FORESEEN = 40;
    private static final int LAST_DAY = 999;
    private static final int MOST_DAYS = 20;
    private static final int MOST_STUFFED = 20;
    private static final int LARGEST_TOLD = 60;
    private static final int LARGEST_GROWN = 99;
    private static final int MOST_WORN = 99;
    private static final int MOST_BLISTERS = 999;
    private static final int MOST_EASED = 30;
    private static final int LAST_PLACE = 30;
    private static final int DAMPEST = 9;
    private static final int SILL_DAYS = 5;

    private static final int TEXTS = 0;
    private static final int ACTS = 1;
    private static final int SIGHTS = 2;

    private final Reader reader = new Reader();
    private int faultPlace = NONE;
    private Plan plan = new Plan();
    /** A text is read into this one, so that a FAULT leaves the other as it is. */
    private Plan draft = new Plan();
    private final State now = new State();
    /** What would be is tried here; no call leaves anything of worth in it. */
    private final State later = new State();
    private final Acts acts = new Acts();
    private final Seen seen = new Seen();
    private boolean imaged = false;
    private final State imageState = new State();
    private final Acts imageActs = new Acts();
    private final Seen imageSeen = new Seen();
    private final int[] refused = new int[3];
    private final Matcher matcher = new Matcher();
    private final Trader trader = new Trader();
    /** Of each PERSON the SIZES, as bits, by which all that is SEEN would be so. */
    private final long[] fitting = new long[MOST];

    public HornHouses() {
    }

    // ---- the text

    public int feed(int a, int b, int c, int d, int e) {
        if (reader.taped() + FED_BYTES > TAPE_BYTES) {
            return NONE;
        }
        reader.append(a);
        reader.append(b);
        reader.append(c);
        reader.append(d);
        reader.append(e);
        return reader.taped();
    }

    public int town(int n) throws IllegalArgumentException {
        if (n < 0 || n > reader.taped()) {
            throw new IllegalArgumentException("the tape has not so many bytes");
        }
        int found = reader.read(n, draft);
        faultPlace = found == 0 ? NONE : reader.place();
        if (found != 0) {
            refused[TEXTS]++;
            return found;
        }
        Plan old = plan;
        plan = draft;
        draft = old;
        plan.begin(now);
        acts.clear();
        seen.clear();
        imaged = false;
        return 0;
    }

    public int fault() {
        return faultPlace;
    }

    // ---- what is

    public int count(int what) throws NoSuchElementException {
        switch (what) {
            case 0: return plan.houses;
            case 1: return plan.people;
            case 2: return now.day;
            case 3: return plan.dampOf(now);
            case 4: return now.burst;
            case 5: return housesInUse();
            case 6: return lodgers(now);
            case 7: return allBlisters(now);
            case 8: return tightest();
            case 9: return needed();
            case 10: return acts.many();
            case 11: return seen.many();
            case 12: return reader.taped();
            case 13: return refused[TEXTS];
            case 14: return refused[ACTS];
            case 15: return refused[SIGHTS];
            default: throw new NoSuchElementException("no such count");
        }
    }

    private int housesInUse() {
        int bits = 0;
        for (int h = 0; h < plan.houses; h++) {
            if (now.who[h] != NONE) {
                bits |= 1 << h;
            }
        }
        return bits;
    }

    private int lodgers(State state) {
        int bits = 0;
        for (int p = 0; p < plan.people; p++) {
            if (state.where[p] == NONE) {
                bits |= 1 << p;
            }
        }
        return bits;
    }

    private int allBlisters(State state) {
        int sum = 0;
        for (int p = 0; p < plan.people; p++) {
            sum += state.blisters[p];
        }
        return sum;
    }

    private int tightest() {
        int who = NONE;
        int most = 0;
        for (int p = 0; p < plan.people; p++) {
            int tight = tightNow(p);
            if (tight > most) {
                most = tight;
                who = p;
            }
        }
        return who;
    }

    private int tightNow(int person) {
        int house = now.where[person];
        return house == NONE ? 0 : now.tight(person, house);
    }

    private int needed() {
        matcher.solve(plan, now);
        int bits = 0;
        for (int h = 0; h < plan.houses; h++) {
            if (matcher.lodgeWithout(h) > matcher.lodge()) {
                bits |= 1 << h;
            }
        }
        return bits;
    }

    public int house(int house, int what) throws NoSuchElementException {
        needHouse(house);
        switch (what) {
            case 0: return now.size[house];
            case 1: return plan.give[house];
            case 2: return plan.place[house];
            case 3: return now.worn[house];
            case 4: return now.who[house];
            case 5: return now.isBurst(house) ? 1 : 0;
            case 6: return room(house);
            case 7: return nextDoor(house);
            default: throw new NoSuchElementException("no such thing of a house");
        }
    }

    private int room(int house) {
        int person = now.who[house];
        return person == NONE ? 0 : Math.max(0, now.size[house] - now.heel[person]);
    }

    private int nextDoor(int house) {
        int nearest = NONE;
        int least = LAST_PLACE + 1;
        for (int h = 0; h < plan.houses; h++) {
            int steps = Math.abs(plan.place[h] - plan.place[house]);
            if (h != house && steps < least) {
                least = steps;
                nearest = h;
            }
        }
        return nearest;
    }

    public int person(int person, int what) throws NoSuchElementException {
        needPerson(person);
        switch (what) {
            case 0: return now.heel[person];
            case 1: return plan.grows[person];
            case 2: return now.where[person];
            case 3: return now.blisters[person];
            case 4: return tightNow(person);
            default: throw new NoSuchElementException("no such thing of a person");
        }
    }

    public int eases(int person, int house) throws NoSuchElementException {
        needPerson(person);
        needHouse(house);
        return plan.easing(now, person, house, plan.dampOf(now));
    }

    /** Whether one would GO IN now, were nobody in it. */
    private boolean entersNow(int person, int house) {
        return plan.enters(now, person, house, plan.dampOf(now));
    }

    // ---- acts

    public int days(int many) {
        if (many < 1 || many > MOST_DAYS || now.day + many > LAST_DAY) {
            return refuseAct();
        }
        acts.keep(now);
        pass(now, many);
        return now.day;
    }

    public int putIn(int person, int house) throws NoSuchElementException {
        needPerson(person);
        needHouse(house);
        if (now.where[person] != NONE || now.who[house] != NONE || !entersNow(person, house)) {
            return refuseAct();
        }
        acts.keep(now);
        now.settle(person, house);
        return now.tight(person, house);
    }

    public int out(int person) throws NoSuchElementException {
        needPerson(person);
        int house = now.where[person];
        if (house == NONE) {
            return refuseAct();
        }
        acts.keep(now);
        now.leave(person);
        return house;
    }

    public int stuff(int house, int less) throws NoSuchElementException {
        needHouse(house);
        if (now.who[house] != NONE || less < 1 || less > MOST_STUFFED) {
            return refuseAct();
        }
        acts.keep(now);
        now.size[house] = Math.max(1, now.size[house] - less);
        return now.size[house];
    }

    public boolean change(int person, int other) throws NoSuchElementException {
        needPerson(person);
        needPerson(other);
        int from = now.where[person];
        int to = now.where[other];
        boolean lodgeBoth = from == NONE && to == NONE;
        if (person == other || lodgeBoth || !mayMove(person, to) || !mayMove(other, from)) {
            refuseAct();
            return false;
        }
        acts.keep(now);
        now.leave(person);
        now.leave(other);
        settleOrLodge(person, to);
        settleOrLodge(other, from);
        return true;
    }

    /** To LODGE is always open to one. */
    private boolean mayMove(int person, int house) {
        return house == NONE || entersNow(person, house);
    }

    private void settleOrLodge(int person, int house) {
        if (house != NONE) {
            now.settle(person, house);
        }
    }

    public int letIn() {
        if (now.letIn) {
            return refuseAct();
        }
        acts.keep(now);
        int was = plan.dampOf(now);
        now.letIn = true;
        return was;
    }

    public int undo() {
        return acts.takeBack(now) ? acts.many() : NONE;
    }

    private int refuseAct() {
        refused[ACTS]++;
        return NONE;
    }

    // ---- if only days go by

    private void pass(State state, int many) {
        for (int d = 0; d < many; d++) {
            plan.pass(state, plan.dampOf(state));
        }
    }

    private State after(int many) {
        later.copy(now);
        pass(later, many);
        return later;
    }

    public int then(int person, int days, int what)
            throws NoSuchElementException, IllegalArgumentException {
        needPerson(person);
        needWhat(what, 2);
        needDays(days, 0);
        State state = after(days);
        switch (what) {
            case 0: return state.heel[person];
            case 1: return state.where[person];
            default: return state.blisters[person];
        }
    }

    public int worn(int house, int days) throws NoSuchElementException, IllegalArgumentException {
        needHouse(house);
        needDays(days, 0);
        return after(days).worn[house];
    }

    public int burst(int house) throws NoSuchElementException {
        needHouse(house);
        later.copy(now);
        return daysTillBurst(house);
    }

    /** From what stands in later on; 0, if it is BURST there. */
    private int daysTillBurst(int house) {
        for (int d = 0; d <= FORESEEN; d++) {
            if (later.isBurst(house)) {
                return d;
            }
            plan.passAlone(later, house, plan.dampOf(later));
        }
        return NONE;
    }

    public int wriggles(int person) throws NoSuchElementException {
        needPerson(person);
        later.copy(now);
        for (int d = 1; d <= FORESEEN; d++) {
            pass(later, 1);
            if (later.blisters[person] > now.blisters[person]) {
                return d;
            }
        }
        return NONE;
    }

    public int barefoot(int days) throws IllegalArgumentException {
        needDays(days, 0);
        return lodgers(after(days));
    }

    public int last(int what) throws NoSuchElementException {
        needWhat(what, 1);
        int whole = housesInUse();
        int latest = 0;
        int latestDay = NONE;
        later.copy(now);
        for (int d = 1; d <= FORESEEN; d++) {
            pass(later, 1);
            int gone = whole & later.burst;
            if (gone != 0) {
                latest = gone;
                latestDay = d;
                whole &= ~gone;
            }
        }
        if (what == 0) {
            return leastBit(whole != 0 ? whole : latest);
        }
        return whole != 0 ? NONE : latestDay;
    }

    private static int leastBit(int bits) {
        for (int i = 0; i < MOST; i++) {
            if ((bits >> i & 1) == 1) {
                return i;
            }
        }
        return NONE;
    }

    // ---- what goes in where

    public int goes(int person) throws NoSuchElementException {
        needPerson(person);
        int bits = 0;
        for (int h = 0; h < plan.houses; h++) {
            if (entersNow(person, h)) {
                bits |= 1 << h;
            }
        }
        return bits;
    }

    public int match(int what) throws NoSuchElementException {
        needWhat(what, 1);
        matcher.solve(plan, now);
        return what == 0 ? matcher.lodge() : matcher.tight();
    }

    public int matched(int person) throws NoSuchElementException {
        needPerson(person);
        matcher.solve(plan, now);
        return matcher.houseOf(person);
    }

    public int trade(int person) throws NoSuchElementException {
        needPerson(person);
        trader.solve(plan, now);
        return trader.gets[person];
    }

    public int toStuff(int person, int house) throws NoSuchElementException {
        needPerson(person);
        needHouse(house);
        int less = Math.max(0, now.size[house] - now.heel[person]);
        return less <= MOST_STUFFED ? less : NONE;
    }

    public int toWait(int person, int house) throws NoSuchElementException {
        needPerson(person);
        needHouse(house);
        later.copy(now);
        for (int d = 0; d <= FORESEEN; d++) {
            if (plan.enters(later, person, house, plan.dampOf(later))) {
                return d;
            }
            pass(later, 1);
        }
        return NONE;
    }

    public int round(int place) throws IllegalArgumentException {
        if (place < 0 || place > LAST_PLACE) {
            throw new IllegalArgumentException("no such place");
        }
        int first = LAST_PLACE + 1;
        int last = NONE;
        for (int p = 0; p < plan.people; p++) {
            int house = now.where[p];
            if (house != NONE && now.tight(p, house) > 0) {
                int there = plan.place[house];
                first = Math.min(first, there);
                last = Math.max(last, there);
            }
        }
        if (last == NONE) {
            return 0;
        }
        return last - first + Math.min(Math.abs(place - first), Math.abs(place - last));
    }

    // ---- what is seen

    public int see(int house, int days, int worn) throws NoSuchElementException {
        needHouse(house);
        boolean told = days >= 0 && days <= MOST_DAYS && worn >= 0 && worn <= MOST_WORN;
        if (!told || seen.many() >= MOST) {
            refused[SIGHTS]++;
            return NONE;
        }
        seen.add(house, days, worn);
        return seen.many();
    }

    public void forget() {
        seen.clear();
    }

    public int large(int what) throws NoSuchElementException {
        needWhat(what, 2);
        if (what == 2) {
            return agreeingHouses() == allHouses() ? 1 : 0;
        }
        findFitting();
        int many = 0;
        int first = NONE;
        for (int p = 0; p < plan.people; p++) {
            if (first == NONE && fitting[p] != 0) {
                first = 100 * p + leastSize(fitting[p]);
            }
            many += Long.bitCount(fitting[p]);
        }
        return what == 0 ? many : first;
    }

    private static int leastSize(long sizes) {
        for (int size = 1; size <= LARGEST_TOLD; size++) {
            if ((sizes >> size & 1) == 1) {
                return size;
            }
        }
        return 0;
    }

    private int allHouses() {
        return (1 << plan.houses) - 1;
    }

    /** HOUSES (bits) of which all that is SEEN will be so, with PEOPLE as large as they are. */
    private int agreeingHouses() {
        int bits = 0;
        for (int h = 0; h < plan.houses; h++) {
            later.copy(now);
            if (agreesFromLater(h)) {
                bits |= 1 << h;
            }
        }
        return bits;
    }

    private boolean agreesFromLater(int house) {
        int longest = seen.longest(house);
        for (int d = 0; d <= longest; d++) {
            if (!seen.agrees(house, d, later.worn[house])) {
                return false;
            }
            plan.passAlone(later, house, plan.dampOf(later));
        }
        return true;
    }

    /** How large one is shows in the HOUSE alone in which one is: the others need no new trial. */
    private void findFitting() {
        int agreeing = agreeingHouses();
        for (int p = 0; p < plan.people; p++) {
            int house = now.where[p];
            int others = house == NONE ? allHouses() : allHouses() & ~(1 << house);
            fitting[p] = (agreeing & others) == others ? fittingSizes(p, house) : 0;
        }
    }

    private long fittingSizes(int person, int house) {
        long sizes = 0;
        for (int size = 1; size <= LARGEST_TOLD; size++) {
            later.copy(now);
            later.heel[person] = size;
            if (size != now.heel[person] && (house == NONE || agreesFromLater(house))) {
                sizes |= 1L << size;
            }
        }
        return sizes;
    }

    public int next(int what) throws NoSuchElementException {
        needWhat(what, 1);
        findFitting();
        int sill = NONE;
        int most = 0;
        for (int h = 0; h < plan.houses; h++) {
            int unlike = unlikeWorn(h);
            if (unlike > most) {
                most = unlike;
                sill = h;
            }
        }
        return what == 0 ? sill : most;
    }

    /** How many different WORN of a HOUSE there would be by all that fits. */
    private int unlikeWorn(int house) {
        long low = 0;
        long high = 0;
        for (int p = 0; p < plan.people; p++) {
            // Whoever is elsewhere leaves this house as it is, so that one size stands for all.
            long sizes = now.where[p] == house ? fitting[p] : fitting[p] & -fitting[p];
            for (int size = 1; size <= LARGEST_TOLD; size++) {
                if ((sizes >> size & 1) == 1) {
                    int worn = wornAtSill(p, size, house);
                    low |= worn < 50 ? 1L << worn : 0;
                    high |= worn < 50 ? 0 : 1L << worn - 50;
                }
            }
        }
        return Long.bitCount(low) + Long.bitCount(high);
    }

    private int wornAtSill(int person, int size, int house) {
        later.copy(now);
        later.heel[person] = size;
        for (int d = 0; d < SILL_DAYS; d++) {
            plan.passAlone(later, house, plan.dampOf(later));
        }
        return later.worn[house];
    }

    // ---- chances, games, years

    public int byDamp(int house, int days, int tenths)
            throws NoSuchElementException, IllegalArgumentException {
        needHouse(house);
        if (days < 1 || days > 5 || tenths < 0 || tenths > 10) {
            throw new IllegalArgumentException("no such days or tenths");
        }
        int sum = 0;
        for (int damps = 0; damps < 1 << days; damps++) {
            if (burstsByDamps(house, days, damps)) {
                sum += weight(days, damps, tenths);
            }
        }
        return sum;
    }

    private boolean burstsByDamps(int house, int days, int damps) {
        later.copy(now);
        for (int d = 0; d < days; d++) {
            plan.passAlone(later, house, (damps >> d & 1) == 1 ? DAMPEST : 0);
        }
        return later.isBurst(house);
    }

    private static int weight(int days, int damps, int tenths) {
        int product = 1;
        for (int d = 0; d < days; d++) {
            product *= (damps >> d & 1) == 1 ? tenths : 10 - tenths;
        }
        return product;
    }

    public int game(int person, int other, int house, int what)
            throws NoSuchElementException, IllegalArgumentException {
        needPerson(person);
        needPerson(other);
        needHouse(house);
        needWhat(what, 1);
        if (person == other) {
            throw new IllegalArgumentException("both are one");
        }
        int many = 0;
        int first = NONE;
        for (int couple = 0; couple < 4; couple++) {
            boolean one = couple >= 2;
            boolean two = couple % 2 == 1;
            if (stays(person, one, other, two, house) && stays(other, two, person, one, house)) {
                many++;
                first = first == NONE ? (one ? 10 : 0) + (two ? 1 : 0) : first;
            }
        }
        return what == 0 ? many : first;
    }

    private boolean stays(int person, boolean goes, int other, boolean otherGoes, int house) {
        int as = gain(person, goes, other, otherGoes, house);
        return gain(person, !goes, other, otherGoes, house) <= as;
    }

    private int gain(int person, boolean goes, int other, boolean otherGoes, int house) {
        if (!goes) {
            return 2;
        }
        if (otherGoes && !comesFirst(person, other, house)) {
            return -5;
        }
        return entersNow(person, house) ? 20 - 2 * now.tight(person, house) : -3;
    }

    private boolean comesFirst(int person, int other, int house) {
        int mine = now.tight(person, house);
        int theirs = now.tight(other, house);
        return mine < theirs || mine == theirs && person < other;
    }

    public int years(int seed, int n, int what)
            throws NoSuchElementException, IllegalArgumentException {
        needWhat(what, 2);
        needDays(n, 0);
        later.copy(now);
        int drawn = seed;
        for (int d = 0; d < n; d++) {
            drawn = drawAfter(drawn);
            int damp = draw(drawn, 10);
            if (plan.people > 0 && plan.houses > 0) {
                drawn = drawAfter(drawn);
                int person = draw(drawn, plan.people);
                drawn = drawAfter(drawn);
                tryIn(person, draw(drawn, plan.houses), damp);
            }
            plan.pass(later, damp);
        }
        switch (what) {
            case 0: return Integer.bitCount(later.burst);
            case 1: return allBlisters(later);
            default: return Integer.bitCount(lodgers(later));
        }
    }

    private void tryIn(int person, int house, int damp) {
        boolean open = later.where[person] == NONE && later.who[house] == NONE;
        if (open && plan.enters(later, person, house, damp)) {
            later.settle(person, house);
        }
    }

    private static int drawAfter(int seed) {
        return seed * 1103515245 + 12345;
    }

    private static int draw(int seed, int of) {
        return of > 0 ? (seed >>> 16 & 0x7fff) % of : 0;
    }

    // ---- heirs and the rest of part 5

    public int heirs(int house) throws NoSuchElementException {
        needHouse(house);
        int bits = 0;
        for (int p = 0; p < plan.people; p++) {
            if (entersNow(p, house)) {
                bits |= 1 << p;
            }
        }
        return bits;
    }

    public int toGrow(int person, int house) throws NoSuchElementException {
        needPerson(person);
        needHouse(house);
        later.copy(now);
        for (int d = 0; d <= FORESEEN; d++) {
            if (later.heel[person] >= now.size[house]) {
                return d;
            }
            plan.grow(later, person);
        }
        return NONE;
    }

    public int paid(int days) throws IllegalArgumentException {
        needDays(days, 0);
        return allBlisters(after(days)) - allBlisters(now);
    }

    public int wornest(int days) throws IllegalArgumentException {
        needDays(days, 0);
        return leastOfMost(after(days).worn, plan.houses);
    }

    public int sorest(int days) throws IllegalArgumentException {
        needDays(days, 0);
        return leastOfMost(after(days).blisters, plan.people);
    }

    private static int leastOfMost(int[] row, int many) {
        int best = NONE;
        int most = NONE;
        for (int i = 0; i < many && i < row.length; i++) {
            if (row[i] > most) {
                most = row[i];
                best = i;
            }
        }
        return best;
    }

    public int dampest(int days) throws IllegalArgumentException {
        needDays(days, 1);
        int best = 0;
        int most = plan.dampOf(now);
        for (int d = 1; d < days; d++) {
            int damp = plan.dampOn(now.day + d);
            if (damp > most) {
                most = damp;
                best = d;
            }
        }
        return best;
    }

    public int kept(int days) throws IllegalArgumentException {
        needDays(days, 0);
        State state = after(days);
        int bits = 0;
        for (int p = 0; p < plan.people; p++) {
            if (now.where[p] != NONE && state.where[p] == now.where[p]) {
                bits |= 1 << p;
            }
        }
        return bits;
    }

    public int eased(int person, int house, int days)
            throws NoSuchElementException, IllegalArgumentException {
        needPerson(person);
        needHouse(house);
        needDays(days, 1);
        later.copy(now);
        int best = 0;
        int most = NONE;
        for (int d = 0; d < days; d++) {
            int eases = plan.easing(later, person, house, plan.dampOf(later));
            if (eases > most) {
                most = eases;
                best = d;
            }
            pass(later, 1);
        }
        return best;
    }

    public int free(int person) throws NoSuchElementException {
        needPerson(person);
        int best = NONE;
        int least = MOST_EASED + 1;
        for (int h = 0; h < plan.houses; h++) {
            boolean open = now.who[h] == NONE && entersNow(person, h);
            if (open && now.tight(person, h) < least) {
                least = now.tight(person, h);
                best = h;
            }
        }
        return best;
    }

    public int larger(int person) throws NoSuchElementException {
        needPerson(person);
        int many = 0;
        for (int p = 0; p < plan.people; p++) {
            if (now.heel[p] > now.heel[person]) {
                many++;
            }
        }
        return many;
    }

    public int wide(int size) throws IllegalArgumentException {
        if (size < 1 || size > LARGEST_TOLD) {
            throw new IllegalArgumentException("no such size");
        }
        int bits = 0;
        for (int h = 0; h < plan.houses; h++) {
            if (!now.isBurst(h) && now.size[h] >= size) {
                bits |= 1 << h;
            }
        }
        return bits;
    }

    public int endures(int person, int house) throws NoSuchElementException {
        needPerson(person);
        needHouse(house);
        if (now.isBurst(house)) {
            return NONE;
        }
        later.copy(now);
        if (later.who[house] != NONE) {
            later.leave(later.who[house]);
        }
        later.leave(person);
        later.settle(person, house);
        return daysTillBurst(house);
    }

    public int ringed(int person) throws NoSuchElementException {
        needPerson(person);
        trader.solve(plan, now);
        return trader.ring[person];
    }

    // ---- the image

    public void image() {
        imageState.copy(now);
        imageActs.copy(acts);
        imageSeen.copy(seen);
        imaged = true;
    }

    public boolean restore() {
        if (!imaged) {
            return false;
        }
        now.copy(imageState);
        acts.copy(imageActs);
        seen.copy(imageSeen);
        return true;
    }

    // ---- what a call needs

    private void needHouse(int house) {
        if (house < 0 || house >= plan.houses) {
            throw new NoSuchElementException("no such house");
        }
    }

    private void needPerson(int person) {
        if (person < 0 || person >= plan.people) {
            throw new NoSuchElementException("no such person");
        }
    }

    private static void needWhat(int what, int most) {
        if (what < 0 || what > most) {
            throw new NoSuchElementException("no such question");
        }
    }

    private static void needDays(int days, int least) {
        if (days < least || days > FORESEEN) {
            throw new IllegalArgumentException("not so many days");
        }
    }

    /** What days and acts change. */
    static final class State {
        int day = 0;
        boolean letIn = false;
        int burst = 0;
        final int[] size = new int[MOST];
        final int[] worn = new int[MOST];
        final int[] who = new int[MOST];
        final int[] heel = new int[MOST];
        final int[] where = new int[MOST];
        final int[] blisters = new int[MOST];

        State() {
            Arrays.fill(who, NONE);
            Arrays.fill(where, NONE);
        }

        void copy(State from) {
            day = from.day;
            letIn = from.letIn;
            burst = from.burst;
            System.arraycopy(from.size, 0, size, 0, MOST);
            System.arraycopy(from.worn, 0, worn, 0, MOST);
            System.arraycopy(from.who, 0, who, 0, MOST);
            System.arraycopy(from.heel, 0, heel, 0, MOST);
            System.arraycopy(from.where, 0, where, 0, MOST);
            System.arraycopy(from.blisters, 0, blisters, 0, MOST);
        }

        boolean isBurst(int house) {
            return (burst >> house & 1) == 1;
        }

        int tight(int person, int house) {
            return Math.max(0, heel[person] - size[house]);
        }

        void settle(int person, int house) {
            where[person] = house;
            who[house] = person;
        }

        void leave(int person) {
            int house = where[person];
            if (house != NONE) {
                who[house] = NONE;
                where[person] = NONE;
            }
        }
    }

    /** What a text tells, and how days go by with it. */
    static final class Plan {
        int houses = 0;
        int people = 0;
        int damps = 0;
        final int[] size = new int[MOST];
        final int[] give = new int[MOST];
        final int[] place = new int[MOST];
        final int[] heel = new int[MOST];
        final int[] grows = new int[MOST];
        final int[] home = new int[MOST];
        final int[] damp = new int[MOST];
        /** Null: the text tells no such rule. */
        Rule easesRule = null;
        Rule burstsRule = null;
        private final int[] facts = new int[Rule.FACTS];
        private final int[] stack = new int[Rule.DEEPEST];

        void clear() {
            houses = 0;
            people = 0;
            damps = 0;
            easesRule = null;
            burstsRule = null;
        }

        void begin(State state) {
            state.day = 0;
            state.letIn = false;
            state.burst = 0;
            Arrays.fill(state.worn, 0);
            Arrays.fill(state.blisters, 0);
            Arrays.fill(state.who, NONE);
            Arrays.fill(state.where, NONE);
            System.arraycopy(size, 0, state.size, 0, MOST);
            System.arraycopy(heel, 0, state.heel, 0, MOST);
            for (int p = 0; p < people; p++) {
                if (home[p] != NONE) {
                    state.settle(p, home[p]);
                }
            }
        }

        boolean hasSomebodyAtFirst(int house) {
            for (int p = 0; p < people; p++) {
                if (home[p] == house) {
                    return true;
                }
            }
            return false;
        }

        int dampOn(int day) {
            return damps > 0 ? damp[Math.floorMod(day, damps)] : 3;
        }

        int dampOf(State state) {
            return state.letIn ? DAMPEST : dampOn(state.day);
        }

        /** What EASES gives, kept to 0 to 30. */
        int easing(State state, int person, int house, int damp) {
            Rule rule = easesRule;
            if (rule == null) {
                return give[house] + damp + state.worn[house] / 10;
            }
            tellFacts(state, person, house, damp);
            return Math.min(MOST_EASED, Math.max(0, rule.value(facts, stack)));
        }

        private void tellFacts(State state, int person, int house, int damp) {
            facts[Rule.HEEL] = state.heel[person];
            facts[Rule.SIZE] = state.size[house];
            facts[Rule.GIVE] = give[house];
            facts[Rule.WORN] = state.worn[house];
            facts[Rule.DAMP] = damp;
            facts[Rule.DAY] = state.day;
            facts[Rule.TIGHT] = Math.max(0, state.heel[person] - state.size[house]);
        }

        /** Whether one would GO IN, were nobody in it. */
        boolean enters(State state, int person, int house, int damp) {
            return !state.isBurst(house)
                && state.tight(person, house) <= easing(state, person, house, damp);
        }

        /** One DAY of all. */
        void pass(State state, int damp) {
            for (int h = 0; h < houses; h++) {
                wear(state, h, damp);
            }
            for (int p = 0; p < people; p++) {
                grow(state, p);
            }
            state.day++;
            state.letIn = false;
        }

        /** One DAY of a single HOUSE and who is in it; the others stand still. */
        void passAlone(State state, int house, int damp) {
            int person = state.who[house];
            wear(state, house, damp);
            if (person != NONE) {
                grow(state, person);
            }
            state.day++;
            state.letIn = false;
        }

        void grow(State state, int person) {
            state.heel[person] = Math.min(LARGEST_GROWN, state.heel[person] + grows[person]);
        }

        private void wear(State state, int house, int damp) {
            int person = state.who[house];
            if (person == NONE) {
                return;
            }
            int tight = state.tight(person, house);
            state.worn[house] = Math.min(MOST_WORN, state.worn[house] + tight);
            state.blisters[person] = Math.min(MOST_BLISTERS, state.blisters[person] + tight);
            Rule rule = burstsRule;
            int burst = tight - 9 - give[house];
            if (rule != null) {
                tellFacts(state, person, house, damp);
                burst = rule.value(facts, stack);
            }
            if (burst > 0) {
                state.burst |= 1 << house;
                state.leave(person);
            }
        }
    }

    /** An EXPR, its operators behind what they join; what isn't below 0 in it is a NUMBER. */
    static final class Rule {
        static final int HEEL = 0;
        static final int SIZE = 1;
        static final int GIVE = 2;
        static final int WORN = 3;
        static final int DAMP = 4;
        static final int DAY = 5;
        static final int TIGHT = 6;
        static final int FACTS = 7;
        /** Six EXPRS in one another, five joined parts open in each, and the last one: 31. */
        static final int DEEPEST = 32;

        /** VALUES are -1 (heel) to -7 (tight). */
        static final int FIRST_VALUE = -1;
        static final int LAST_VALUE = -7;
        static final int NOT = -8;
        static final int AND = -9;
        static final int OR = -10;
        static final int PLUS = -11;
        static final int MINUS = -12;
        static final int TIMES = -13;
        static final int BY = -14;
        static final int BELOW = -15;
        static final int LIKE = -16;

        private final int[] code;

        Rule(int[] code) {
            this.code = code;
        }

        int value(int[] facts, int[] stack) {
            int many = 0;
            for (int i = 0; i < code.length; i++) {
                int sign = code[i];
                if (sign >= LAST_VALUE) {
                    if (many < stack.length) {
                        stack[many] = sign >= 0 ? sign : facts[FIRST_VALUE - sign];
                        many++;
                    }
                } else if (sign == NOT) {
                    if (many > 0) {
                        stack[many - 1] = stack[many - 1] == 0 ? 1 : 0;
                    }
                } else if (many > 1) {
                    many--;
                    stack[many - 1] = join(sign, stack[many - 1], stack[many]);
                }
            }
            return stack[0];
        }

        private static int join(int sign, int a, int b) {
            switch (sign) {
                case AND: return a != 0 && b != 0 ? 1 : 0;
                case OR: return a != 0 || b != 0 ? 1 : 0;
                case PLUS: return a + b;
                case MINUS: return a - b;
                case TIMES: return a * b;
                case BY: return b == 0 ? 0 : a / b;
                case BELOW: return a < b ? 1 : 0;
                default: return a == b ? 1 : 0;
            }
        }
    }

    /** The tape, and what reads a TOWN from it; it stops at the first FAULT. */
    static final class Reader {
        private static final int WRONG = 1;
        private static final int TOO_MUCH = 2;
        private static final int UNKNOWN = 3;
        private static final int TAKEN = 4;
        private static final int SECOND = 5;

        private static final int END = 0;
        private static final int BLANK = 1;
        private static final int WORD = 2;
        private static final int NUMBER = 3;
        private static final int SIGN = 4;

        /** What EXPR, AND, NOT, SUM and PRODUCT join, the loosest first; then comes a PART. */
        private static final int OR_LEVEL = 0;
        private static final int AND_LEVEL = 1;
        private static final int NOT_LEVEL = 2;
        private static final int SUM_LEVEL = 3;
        private static final int PRODUCT_LEVEL = 4;

        private static final int MOST_DIGITS = 4;
        private static final int DEEPEST = 5;
        private static final int MOST_NOTS = 6;

        private final byte[] tape = new byte[TAPE_BYTES];
        private int taped = 0;
        /** So much of the tape is the text. */
        private int length = 0;
        private int fault = 0;
        private int faultAt = NONE;

        private int kind = END;
        private int at = 0;
        private int behind = 0;
        /** Of a NUMBER with too many digits NONE, which is right nowhere. */
        private int number = 0;

        private final int[] code = new int[TAPE_BYTES];
        private int coded = 0;
        private boolean knowsTight = false;

        int taped() {
            return taped;
        }

        void append(int number) {
            for (int shift = 24; shift >= 0 && taped < TAPE_BYTES; shift -= 8) {
                tape[taped] = (byte) (number >>> shift);
                taped++;
            }
        }

        int place() {
            return faultAt;
        }

        /** The FAULT of the first n bytes, or 0: then the plan tells the TOWN. */
        int read(int n, Plan plan) {
            length = Math.min(n, taped);
            taped = 0;
            fault = 0;
            faultAt = NONE;
            behind = 0;
            plan.clear();
            advance();
            for (int lines = 0; lines < TAPE_BYTES && kind != END && fault == 0; lines++) {
                line(plan);
                takeSign(';');
            }
            return fault;
        }

        private void fail(int what) {
            if (fault == 0) {
                fault = what;
                faultAt = at;
            }
        }

        // -- tokens

        private void advance() {
            at = behind;
            while (at < length && kindAt(at) == BLANK) {
                at++;
            }
            kind = kindAt(at);
            behind = kind == END ? at : at + 1;
            while (behind < length && kindAt(behind) == kind && kind != SIGN) {
                behind++;
            }
            number = behind - at > MOST_DIGITS ? NONE : 0;
            for (int i = at; i < behind && kind == NUMBER && number != NONE; i++) {
                number = number * 10 + tape[i] - '0';
            }
        }

        /** What is no TOKEN counts as a SIGN, which none asks for. */
        private int kindAt(int i) {
            if (i < 0 || i >= length) {
                return END;
            }
            int b = tape[i];
            if (b == 32 || b == 10) {
                return BLANK;
            }
            if (b >= 'a' && b <= 'z') {
                return WORD;
            }
            return b >= '0' && b <= '9' ? NUMBER : SIGN;
        }

        private boolean isWord(String word) {
            boolean like = kind == WORD && behind - at == word.length();
            for (int i = 0; i < word.length() && like; i++) {
                like = tape[at + i] == word.charAt(i);
            }
            return like;
        }

        private boolean isSign(char sign) {
            return kind == SIGN && tape[at] == sign;
        }

        private void takeSign(char sign) {
            if (isSign(sign) && fault == 0) {
                advance();
            } else {
                fail(WRONG);
            }
        }

        private int takeNumber(int least, int most) {
            int told = number;
            if (kind != NUMBER) {
                fail(WRONG);
            } else if (told < least || told > most) {
                fail(TOO_MUCH);
            }
            if (fault == 0) {
                advance();
            }
            return told;
        }

        // -- lines

        private void line(Plan plan) {
            if (isWord("house")) {
                houseLine(plan);
            } else if (isWord("person")) {
                personLine(plan);
            } else if (isWord("damp")) {
                dampLine(plan);
            } else if (isWord("eases")) {
                ruleLine(plan, false);
            } else if (isWord("bursts")) {
                ruleLine(plan, true);
            } else {
                fail(WRONG);
            }
        }

        private void houseLine(Plan plan) {
            if (plan.houses >= MOST) {
                fail(TOO_MUCH);
                return;
            }
            advance();
            plan.size[plan.houses] = takeNumber(1, LARGEST_TOLD);
            plan.give[plan.houses] = takeNumber(0, 9);
            plan.place[plan.houses] = takeNumber(0, LAST_PLACE);
            plan.houses++;
        }

        private void personLine(Plan plan) {
            if (plan.people >= MOST) {
                fail(TOO_MUCH);
                return;
            }
            advance();
            plan.heel[plan.people] = takeNumber(1, LARGEST_TOLD);
            plan.grows[plan.people] = takeNumber(0, 9);
            plan.home[plan.people] = NONE;
            if (fault == 0 && isWord("in")) {
                advance();
                plan.home[plan.people] = takeHome(plan);
            }
            plan.people++;
        }

        private int takeHome(Plan plan) {
            int told = number;
            if (kind != NUMBER) {
                fail(WRONG);
            } else if (told == NONE) {
                fail(TOO_MUCH);
            } else if (told >= plan.houses) {
                fail(UNKNOWN);
            } else if (plan.hasSomebodyAtFirst(told)) {
                fail(TAKEN);
            } else {
                advance();
            }
            return told;
        }

        private void dampLine(Plan plan) {
            if (plan.damps > 0) {
                fail(SECOND);
                return;
            }
            advance();
            plan.damp[0] = takeNumber(0, 9);
            plan.damps = 1;
            for (int i = 1; i < MOST && fault == 0 && kind == NUMBER; i++) {
                plan.damp[i] = takeNumber(0, 9);
                plan.damps++;
            }
            if (kind == NUMBER) {
                fail(TOO_MUCH);
            }
        }

        private void ruleLine(Plan plan, boolean ofBursts) {
            if ((ofBursts ? plan.burstsRule : plan.easesRule) != null) {
                fail(SECOND);
                return;
            }
            advance();
            coded = 0;
            knowsTight = ofBursts;
            takeJoined(0, OR_LEVEL);
            Rule rule = new Rule(Arrays.copyOf(code, coded));
            if (ofBursts) {
                plan.burstsRule = rule;
            } else {
                plan.easesRule = rule;
            }
        }

        private void emit(int sign) {
            if (coded < code.length) {
                code[coded] = sign;
                coded++;
            }
        }

        // -- expressions; depth: within how many others one stands

        private void takeJoined(int depth, int level) {
            if (depth > DEEPEST) {
                fail(kind == NUMBER || kind == WORD || isSign('(') ? TOO_MUCH : WRONG);
                return;
            }
            if (level > PRODUCT_LEVEL) {
                takePart(depth);
                return;
            }
            int nots = level == NOT_LEVEL ? takeNots() : 0;
            takeJoined(depth, level + 1);
            int most = level == NOT_LEVEL ? 1 : TAPE_BYTES;
            for (int i = 0; i < most && fault == 0; i++) {
                int sign = joinAt(level);
                if (sign == 0) {
                    break;
                }
                advance();
                takeJoined(depth, level + 1);
                emit(sign);
            }
            for (int i = 0; i < nots; i++) {
                emit(Rule.NOT);
            }
        }

        /** What joins two parts of this level, if it stands here; else 0. */
        private int joinAt(int level) {
            switch (level) {
                case OR_LEVEL: return isWord("or") ? Rule.OR : 0;
                case AND_LEVEL: return isWord("and") ? Rule.AND : 0;
                case NOT_LEVEL: return isSign('<') ? Rule.BELOW : isSign('=') ? Rule.LIKE : 0;
                case SUM_LEVEL: return isSign('+') ? Rule.PLUS : isSign('-') ? Rule.MINUS : 0;
                default: return isSign('*') ? Rule.TIMES : isSign('/') ? Rule.BY : 0;
            }
        }

        private int takeNots() {
            int nots = 0;
            while (nots < MOST_NOTS && isWord("not")) {
                nots++;
                advance();
            }
            if (nots == MOST_NOTS && isWord("not")) {
                fail(TOO_MUCH);
            }
            return nots;
        }

        private void takePart(int depth) {
            int fact = kind == WORD ? factHere() : NONE;
            if (fact != NONE) {
                emit(Rule.FIRST_VALUE - fact);
                advance();
            } else if (kind == WORD) {
                fail(UNKNOWN);
            } else if (kind == NUMBER && number == NONE) {
                fail(TOO_MUCH);
            } else if (kind == NUMBER) {
                emit(number);
                advance();
            } else if (isSign('(')) {
                advance();
                takeJoined(depth + 1, OR_LEVEL);
                if (fault == 0 && isSign(')')) {
                    advance();
                } else {
                    fail(WRONG);
                }
            } else {
                fail(WRONG);
            }
        }

        private int factHere() {
            if (isWord("heel")) {
                return Rule.HEEL;
            }
            if (isWord("size")) {
                return Rule.SIZE;
            }
            if (isWord("give")) {
                return Rule.GIVE;
            }
            if (isWord("worn")) {
                return Rule.WORN;
            }
            if (isWord("damp")) {
                return Rule.DAMP;
            }
            if (isWord("day")) {
                return Rule.DAY;
            }
            return knowsTight && isWord("tight") ? Rule.TIGHT : NONE;
        }
    }

    /** The latest ACTS, each as all was ahead of it. */
    static final class Acts {
        private final State[] rows = new State[ACTS_KEPT];
        private int first = 0;
        private int many = 0;

        int many() {
            return many;
        }

        void clear() {
            first = 0;
            many = 0;
        }

        void keep(State state) {
            if (many >= ACTS_KEPT) {
                first = (first + 1) % ACTS_KEPT;
                many--;
            }
            row((first + many) % ACTS_KEPT).copy(state);
            many++;
        }

        boolean takeBack(State into) {
            if (many <= 0) {
                return false;
            }
            many--;
            into.copy(row((first + many) % ACTS_KEPT));
            return true;
        }

        /** Rows are made when they are first needed, and used again: most runs need few. */
        private State row(int i) {
            State row = rows[i];
            if (row == null) {
                row = new State();
                rows[i] = row;
            }
            return row;
        }

        void copy(Acts from) {
            first = 0;
            many = from.many;
            for (int i = 0; i < many; i++) {
                row(i).copy(from.row((from.first + i) % ACTS_KEPT));
            }
        }
    }

    /** What is SEEN. */
    static final class Seen {
        private final int[] house = new int[MOST];
        private final int[] days = new int[MOST];
        private final int[] worn = new int[MOST];
        private int many = 0;

        int many() {
            return many;
        }

        void clear() {
            many = 0;
        }

        void add(int ofHouse, int inDays, int wornThen) {
            if (many < MOST) {
                house[many] = ofHouse;
                days[many] = inDays;
                worn[many] = wornThen;
                many++;
            }
        }

        void copy(Seen from) {
            many = from.many;
            System.arraycopy(from.house, 0, house, 0, MOST);
            System.arraycopy(from.days, 0, days, 0, MOST);
            System.arraycopy(from.worn, 0, worn, 0, MOST);
        }

        /** The most DAYS in which a HOUSE is SEEN; NONE, if it isn't. */
        int longest(int ofHouse) {
            int most = NONE;
            for (int i = 0; i < many; i++) {
                if (house[i] == ofHouse) {
                    most = Math.max(most, days[i]);
                }
            }
            return most;
        }

        boolean agrees(int ofHouse, int inDays, int wornThen) {
            for (int i = 0; i < many; i++) {
                if (house[i] == ofHouse && days[i] == inDays && worn[i] != wornThen) {
                    return false;
                }
            }
            return true;
        }
    }

    /** A MATCH of all sets of HOUSES at once, PERSON by PERSON from the last one on. */
    static final class Matcher {
        private static final int SETS = 1 << MOST;
        /** More than all can be TIGHT together: one who LODGES outweighs any TIGHT. */
        private static final int LODGING = 1000;
        private static final int PICK_BITS = 4;
        private static final int LODGES = 15;

        /** By the HOUSES (bits) that are left for one and those behind: the least cost of these. */
        private final int[] cost = new int[SETS];
        /** What each PERSON picks by the HOUSES that are left, 4 bits for each. */
        private final int[] picks = new int[SETS];
        private final int[] fare = new int[MOST];
        private int houses = 0;

        void solve(Plan plan, State state) {
            houses = plan.houses;
            Arrays.fill(cost, 0);
            Arrays.fill(picks, 0);
            int damp = plan.dampOf(state);
            for (int p = plan.people - 1; p >= 0; p--) {
                for (int h = 0; h < houses; h++) {
                    boolean enters = plan.enters(state, p, h, damp);
                    fare[h] = enters ? state.tight(p, h) : NONE;
                }
                // Downwards, so that each set still finds its smaller ones without this person.
                for (int left = all(); left >= 0; left--) {
                    pick(p, left);
                }
            }
        }

        private int all() {
            return (1 << houses) - 1;
        }

        /** From the last HOUSE down, so that of like ones the least stays; to LODGE gives way. */
        private void pick(int person, int left) {
            int best = cost[left] + LODGING;
            int picked = LODGES;
            for (int h = houses - 1; h >= 0; h--) {
                if (fare[h] != NONE && (left >> h & 1) == 1) {
                    int with = cost[left & ~(1 << h)] + fare[h];
                    if (with <= best) {
                        best = with;
                        picked = h;
                    }
                }
            }
            cost[left] = best;
            picks[left] |= picked << PICK_BITS * person;
        }

        int lodge() {
            return cost[all()] / LODGING;
        }

        int tight() {
            return cost[all()] % LODGING;
        }

        int lodgeWithout(int house) {
            return cost[all() & ~(1 << house)] / LODGING;
        }

        int houseOf(int person) {
            int left = all();
            for (int p = 0; p <= person; p++) {
                int picked = picks[left] >>> PICK_BITS * p & LODGES;
                if (p == person) {
                    return picked == LODGES ? NONE : picked;
                }
                if (picked != LODGES) {
                    left &= ~(1 << picked);
                }
            }
            return NONE;
        }
    }

    /** A TRADE of all who are in a HOUSE. */
    static final class Trader {
        final int[] gets = new int[MOST];
        final int[] ring = new int[MOST];
        private final int[] wants = new int[MOST];

        void solve(Plan plan, State state) {
            Arrays.fill(gets, NONE);
            Arrays.fill(ring, 0);
            int left = 0;
            for (int p = 0; p < plan.people; p++) {
                if (state.where[p] != NONE) {
                    left |= 1 << p;
                }
            }
            // Each time a ring at least is gone.
            for (int times = 0; times < MOST && left != 0; times++) {
                wish(plan, state, left);
                left &= ~closeRings(plan, state, left);
            }
        }

        private void wish(Plan plan, State state, int left) {
            for (int p = 0; p < plan.people; p++) {
                wants[p] = (left >> p & 1) == 1 ? wanted(plan, state, left, p) : NONE;
            }
        }

        private static int wanted(Plan plan, State state, int left, int person) {
            int best = NONE;
            int least = LARGEST_GROWN + 1;
            for (int h = 0; h < plan.houses; h++) {
                int who = state.who[h];
                int differs = Math.abs(state.size[h] - state.heel[person]);
                if (who != NONE && (left >> who & 1) == 1 && differs < least) {
                    least = differs;
                    best = h;
                }
            }
            return best;
        }

        private int closeRings(Plan plan, State state, int left) {
            int gone = 0;
            for (int p = 0; p < plan.people; p++) {
                int steps = (left >> p & 1) == 1 ? ringSteps(state, p) : 0;
                if (steps > 0) {
                    gets[p] = wants[p];
                    ring[p] = steps;
                    gone |= 1 << p;
                }
            }
            return gone;
        }

        /** After how many one comes back to oneself; 0, if never. */
        private int ringSteps(State state, int person) {
            int at = person;
            for (int steps = 1; steps <= MOST && at != NONE && wants[at] != NONE; steps++) {
                at = state.who[wants[at]];
                if (at == person) {
                    return steps;
                }
            }
            return 0;
        }
    }
}
