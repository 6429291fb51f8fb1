import java.util.ArrayList;
import java.util.HashSet;
import java.util.List;
import java.util.NoSuchElementException;
import java.util.Set;
import java.util.TreeSet;

/**
 * The document once more, told in the plainest and slowest way and apart from the class itself, so
 * that random runs can be held against it. Names of calls are those of the document's face.
 */
final class Model {
    static final int NONE = -1;

    /** A value of a rule by heel, size, give, worn, damp, day, tight. */
    interface Value {
        int of(int[] facts);
    }

    static final class Fault extends RuntimeException {
        private static final long serialVersionUID = 1L;
        final int code;
        final int at;

        Fault(int code, int at) {
            this.code = code;
            this.at = at;
        }
    }

    static final class House {
        int size;
        int give;
        int place;
        int worn;
        boolean burst;

        House(House h) {
            size = h.size;
            give = h.give;
            place = h.place;
            worn = h.worn;
            burst = h.burst;
        }

        House(int size, int give, int place) {
            this.size = size;
            this.give = give;
            this.place = place;
        }
    }

    static final class Person {
        int size;
        int grows;
        int house;
        int blisters;

        Person(Person p) {
            size = p.size;
            grows = p.grows;
            house = p.house;
            blisters = p.blisters;
        }

        Person(int size, int grows, int house) {
            this.size = size;
            this.grows = grows;
            this.house = house;
        }
    }

    static final class World {
        final List<House> houses = new ArrayList<>();
        final List<Person> people = new ArrayList<>();
        int day;
        boolean letIn;

        World copy() {
            World w = new World();
            for (House h : houses) {
                w.houses.add(new House(h));
            }
            for (Person p : people) {
                w.people.add(new Person(p));
            }
            w.day = day;
            w.letIn = letIn;
            return w;
        }

        int in(int house) {
            for (int p = 0; p < people.size(); p++) {
                if (people.get(p).house == house) {
                    return p;
                }
            }
            return NONE;
        }

        int tight(int p, int h) {
            return Math.max(0, people.get(p).size - houses.get(h).size);
        }

        int blisters() {
            return people.stream().mapToInt(p -> p.blisters).sum();
        }

        int lodgers() {
            int bits = 0;
            for (int p = 0; p < people.size(); p++) {
                bits |= people.get(p).house == NONE ? 1 << p : 0;
            }
            return bits;
        }
    }

    // ---- the text

    static final class Token {
        final String text;
        final int at;

        Token(String text, int at) {
            this.text = text;
            this.at = at;
        }

        boolean word() {
            return text.matches("[a-z]+");
        }

        boolean number() {
            return text.matches("[0-9]+");
        }
    }

    static final class Parser {
        final List<Token> tokens = new ArrayList<>();
        int i;
        final World world = new World();
        List<Integer> damp;
        Value eases;
        Value bursts;
        boolean inBursts;

        Parser(String s) {
            int at = 0;
            while (at < s.length()) {
                char c = s.charAt(at);
                if (c == ' ' || c == '\n') {
                    at++;
                    continue;
                }
                int end = at + 1;
                String row = c >= 'a' && c <= 'z' ? "[a-z]" : c >= '0' && c <= '9' ? "[0-9]" : "";
                while (!row.isEmpty() && end < s.length()
                        && s.substring(end, end + 1).matches(row)) {
                    end++;
                }
                tokens.add(new Token(s.substring(at, end), at));
                at = end;
            }
            tokens.add(new Token("", s.length()));
        }

        Token peek() {
            return tokens.get(i);
        }

        boolean at(String text) {
            return peek().text.equals(text);
        }

        Fault fault(int code) {
            return new Fault(code, peek().at);
        }

        void need(String text) {
            if (!at(text)) {
                throw fault(1);
            }
            i++;
        }

        int number(int least, int most) {
            if (!peek().number()) {
                throw fault(1);
            }
            if (peek().text.length() > 4) {
                throw fault(2);
            }
            int n = Integer.parseInt(peek().text);
            if (n < least || n > most) {
                throw fault(2);
            }
            i++;
            return n;
        }

        void town() {
            while (!at("")) {
                line();
                need(";");
            }
        }

        void line() {
            if (at("house")) {
                if (world.houses.size() == 8) {
                    throw fault(2);
                }
                i++;
                world.houses.add(new House(number(1, 60), number(0, 9), number(0, 30)));
            } else if (at("person")) {
                if (world.people.size() == 8) {
                    throw fault(2);
                }
                i++;
                Person p = new Person(number(1, 60), number(0, 9), NONE);
                if (at("in")) {
                    i++;
                    p.house = home();
                }
                world.people.add(p);
            } else if (at("damp")) {
                if (damp != null) {
                    throw fault(5);
                }
                i++;
                damp = new ArrayList<>();
                damp.add(number(0, 9));
                while (peek().number()) {
                    if (damp.size() == 8) {
                        throw fault(2);
                    }
                    damp.add(number(0, 9));
                }
            } else if (at("eases")) {
                if (eases != null) {
                    throw fault(5);
                }
                i++;
                inBursts = false;
                eases = expr(0);
            } else if (at("bursts")) {
                if (bursts != null) {
                    throw fault(5);
                }
                i++;
                inBursts = true;
                bursts = expr(0);
            } else {
                throw fault(1);
            }
        }

        int home() {
            if (!peek().number()) {
                throw fault(1);
            }
            if (peek().text.length() > 4) {
                throw fault(2);
            }
            int h = Integer.parseInt(peek().text);
            if (h >= world.houses.size()) {
                throw fault(3);
            }
            if (world.in(h) != NONE) {
                throw fault(4);
            }
            i++;
            return h;
        }

        Value expr(int within) {
            if (within >= 6) {
                throw fault(peek().word() || peek().number() || at("(") ? 2 : 1);
            }
            Value left = and(within);
            while (at("or")) {
                i++;
                Value a = left;
                Value b = and(within);
                left = f -> (a.of(f) != 0) | (b.of(f) != 0) ? 1 : 0;
            }
            return left;
        }

        Value and(int within) {
            Value left = not(within, 1);
            while (at("and")) {
                i++;
                Value a = left;
                Value b = not(within, 1);
                left = f -> (a.of(f) != 0) & (b.of(f) != 0) ? 1 : 0;
            }
            return left;
        }

        Value not(int within, int which) {
            if (at("not")) {
                if (which == 7) {
                    throw fault(2);
                }
                i++;
                Value a = not(within, which + 1);
                return f -> a.of(f) == 0 ? 1 : 0;
            }
            Value a = sum(within);
            if (at("<")) {
                i++;
                Value b = sum(within);
                return f -> a.of(f) < b.of(f) ? 1 : 0;
            }
            if (at("=")) {
                i++;
                Value b = sum(within);
                return f -> a.of(f) == b.of(f) ? 1 : 0;
            }
            return a;
        }

        Value sum(int within) {
            Value left = product(within);
            while (at("+") || at("-")) {
                boolean plus = at("+");
                i++;
                Value a = left;
                Value b = product(within);
                left = f -> plus ? a.of(f) + b.of(f) : a.of(f) - b.of(f);
            }
            return left;
        }

        Value product(int within) {
            Value left = part(within);
            while (at("*") || at("/")) {
                boolean times = at("*");
                i++;
                Value a = left;
                Value b = part(within);
                left = times ? f -> a.of(f) * b.of(f) : f -> {
                    int divisor = b.of(f);
                    return divisor == 0 ? 0 : (int) ((long) a.of(f) / divisor);
                };
            }
            return left;
        }

        Value part(int within) {
            if (peek().number()) {
                if (peek().text.length() > 4) {
                    throw fault(2);
                }
                int n = Integer.parseInt(peek().text);
                i++;
                return f -> n;
            }
            if (peek().word()) {
                List<String> names = List.of("heel", "size", "give", "worn", "damp", "day", "tight");
                int which = names.indexOf(peek().text);
                if (which < 0 || which == 6 && !inBursts) {
                    throw fault(3);
                }
                i++;
                return f -> f[which];
            }
            need("(");
            Value inner = expr(within + 1);
            need(")");
            return inner;
        }
    }

    private final StringBuilder tape = new StringBuilder();
    private int place = NONE;
    private World now = new World();
    private List<Integer> damp;
    private Value easesRule;
    private Value burstsRule;
    private List<World> acts = new ArrayList<>();
    private List<int[]> seen = new ArrayList<>();
    private World imageWorld;
    private List<World> imageActs;
    private List<int[]> imageSeen;
    private final int[] status = new int[3];

    int feed(int a, int b, int c, int d, int e) {
        if (tape.length() > 680) {
            return NONE;
        }
        for (int n : new int[] {a, b, c, d, e}) {
            for (int k = 3; k >= 0; k--) {
                tape.append((char) (n >> 8 * k & 255));
            }
        }
        return tape.length();
    }

    int town(int n) {
        if (n < 0 || n > tape.length()) {
            throw new IllegalArgumentException();
        }
        Parser parser = new Parser(tape.substring(0, n));
        tape.setLength(0);
        try {
            parser.town();
        } catch (Fault f) {
            place = f.at;
            status[0]++;
            return f.code;
        }
        place = NONE;
        now = parser.world;
        damp = parser.damp;
        easesRule = parser.eases;
        burstsRule = parser.bursts;
        acts = new ArrayList<>();
        seen = new ArrayList<>();
        imageWorld = null;
        return 0;
    }

    int fault() {
        return place;
    }

    // ---- how it goes

    private int dampOf(World w) {
        return w.letIn ? 9 : damp == null ? 3 : damp.get(w.day % damp.size());
    }

    private int[] facts(World w, int p, int h, int dampness) {
        House house = w.houses.get(h);
        return new int[] {w.people.get(p).size, house.size, house.give, house.worn, dampness, w.day,
            w.tight(p, h)};
    }

    private int ease(World w, int p, int h, int dampness) {
        House house = w.houses.get(h);
        int gives = easesRule == null ? house.give + dampness + house.worn / 10
            : easesRule.of(facts(w, p, h, dampness));
        return gives < 0 ? 0 : gives > 30 ? 30 : gives;
    }

    private boolean goesIn(World w, int p, int h, int dampness) {
        return !w.houses.get(h).burst && w.tight(p, h) <= ease(w, p, h, dampness);
    }

    private void day(World w, int dampness) {
        for (int h = 0; h < w.houses.size(); h++) {
            int p = w.in(h);
            if (p != NONE) {
                House house = w.houses.get(h);
                Person person = w.people.get(p);
                int tight = w.tight(p, h);
                house.worn = Math.min(99, house.worn + tight);
                person.blisters = Math.min(999, person.blisters + tight);
                boolean bursts = burstsRule == null ? tight > 9 + house.give
                    : burstsRule.of(facts(w, p, h, dampness)) > 0;
                if (bursts) {
                    house.burst = true;
                    person.house = NONE;
                }
            }
        }
        for (Person person : w.people) {
            person.size = Math.min(99, person.size + person.grows);
        }
        w.day++;
        w.letIn = false;
    }

    private World in(int days) {
        return in(now, days);
    }

    private World in(World from, int days) {
        World w = from.copy();
        for (int d = 0; d < days; d++) {
            day(w, dampOf(w));
        }
        return w;
    }

    private void needHouse(int h) {
        if (h < 0 || h >= now.houses.size()) {
            throw new NoSuchElementException();
        }
    }

    private void needPerson(int p) {
        if (p < 0 || p >= now.people.size()) {
            throw new NoSuchElementException();
        }
    }

    private void needWhat(int what, int many) {
        if (what < 0 || what >= many) {
            throw new NoSuchElementException();
        }
    }

    private void need(int n, int least, int most) {
        if (n < least || n > most) {
            throw new IllegalArgumentException();
        }
    }

    // ---- what is

    int count(int what) {
        needWhat(what, 16);
        int bits = 0;
        switch (what) {
            case 0: return now.houses.size();
            case 1: return now.people.size();
            case 2: return now.day;
            case 3: return dampOf(now);
            case 4:
                for (int h = 0; h < now.houses.size(); h++) {
                    bits += now.houses.get(h).burst ? 1 << h : 0;
                }
                return bits;
            case 5:
                for (Person p : now.people) {
                    bits += p.house == NONE ? 0 : 1 << p.house;
                }
                return bits;
            case 6: return now.lodgers();
            case 7: return now.blisters();
            case 8:
                int best = NONE;
                for (int p = 0; p < now.people.size(); p++) {
                    int tight = person(p, 4);
                    if (tight > 0 && (best == NONE || tight > person(best, 4))) {
                        best = p;
                    }
                }
                return best;
            case 9:
                int all = bestMatch(NONE)[8];
                for (int h = 0; h < now.houses.size(); h++) {
                    bits += bestMatch(h)[8] > all ? 1 << h : 0;
                }
                return bits;
            case 10: return acts.size();
            case 11: return seen.size();
            case 12: return tape.length();
            default: return status[what - 13];
        }
    }

    int house(int h, int what) {
        needHouse(h);
        needWhat(what, 8);
        House house = now.houses.get(h);
        int p = now.in(h);
        switch (what) {
            case 0: return house.size;
            case 1: return house.give;
            case 2: return house.place;
            case 3: return house.worn;
            case 4: return p;
            case 5: return house.burst ? 1 : 0;
            case 6: return p == NONE || house.size < now.people.get(p).size ? 0
                : house.size - now.people.get(p).size;
            default:
                for (int far = 0; far <= 30; far++) {
                    for (int o = 0; o < now.houses.size(); o++) {
                        if (o != h && Math.abs(now.houses.get(o).place - house.place) == far) {
                            return o;
                        }
                    }
                }
                return NONE;
        }
    }

    int person(int p, int what) {
        needPerson(p);
        needWhat(what, 5);
        Person person = now.people.get(p);
        switch (what) {
            case 0: return person.size;
            case 1: return person.grows;
            case 2: return person.house;
            case 3: return person.blisters;
            default: return person.house == NONE ? 0 : now.tight(p, person.house);
        }
    }

    int eases(int p, int h) {
        needPerson(p);
        needHouse(h);
        return ease(now, p, h, dampOf(now));
    }

    // ---- acts

    private int refuse() {
        status[1]++;
        return NONE;
    }

    private void act() {
        acts.add(now.copy());
        if (acts.size() > 40) {
            acts.remove(0);
        }
    }

    int days(int many) {
        if (many < 1 || many > 20 || now.day + many > 999) {
            return refuse();
        }
        act();
        now = in(many);
        return now.day;
    }

    int putIn(int p, int h) {
        needPerson(p);
        needHouse(h);
        if (now.people.get(p).house != NONE || now.in(h) != NONE
                || !goesIn(now, p, h, dampOf(now))) {
            return refuse();
        }
        act();
        now.people.get(p).house = h;
        return now.tight(p, h);
    }

    int out(int p) {
        needPerson(p);
        int h = now.people.get(p).house;
        if (h == NONE) {
            return refuse();
        }
        act();
        now.people.get(p).house = NONE;
        return h;
    }

    int stuff(int h, int less) {
        needHouse(h);
        if (now.in(h) != NONE || less < 1 || less > 20) {
            return refuse();
        }
        act();
        now.houses.get(h).size = Math.max(1, now.houses.get(h).size - less);
        return now.houses.get(h).size;
    }

    boolean change(int p, int o) {
        needPerson(p);
        needPerson(o);
        int hp = now.people.get(p).house;
        int ho = now.people.get(o).house;
        if (p == o || hp == ho || ho != NONE && !goesIn(now, p, ho, dampOf(now))
                || hp != NONE && !goesIn(now, o, hp, dampOf(now))) {
            refuse();
            return false;
        }
        act();
        now.people.get(p).house = ho;
        now.people.get(o).house = hp;
        return true;
    }

    int letIn() {
        if (now.letIn) {
            return refuse();
        }
        act();
        int was = dampOf(now);
        now.letIn = true;
        return was;
    }

    int undo() {
        if (acts.isEmpty()) {
            return NONE;
        }
        now = acts.remove(acts.size() - 1);
        return acts.size();
    }

    // ---- then

    int then(int p, int days, int what) {
        needPerson(p);
        needWhat(what, 3);
        need(days, 0, 40);
        Person person = in(days).people.get(p);
        return what == 0 ? person.size : what == 1 ? person.house : person.blisters;
    }

    int worn(int h, int days) {
        needHouse(h);
        need(days, 0, 40);
        return in(days).houses.get(h).worn;
    }

    int burst(int h) {
        needHouse(h);
        return firstBurst(now, h);
    }

    private int firstBurst(World w, int h) {
        for (int d = 0; d <= 40; d++) {
            if (in(w, d).houses.get(h).burst) {
                return d;
            }
        }
        return NONE;
    }

    int wriggles(int p) {
        needPerson(p);
        for (int d = 1; d <= 40; d++) {
            if (in(d).people.get(p).blisters > now.people.get(p).blisters) {
                return d;
            }
        }
        return NONE;
    }

    int barefoot(int days) {
        need(days, 0, 40);
        return in(days).lodgers();
    }

    int last(int what) {
        needWhat(what, 2);
        int which = NONE;
        int latest = NONE;
        for (int h = 0; h < now.houses.size(); h++) {
            if (now.in(h) != NONE) {
                int d = firstBurst(now, h);
                d = d == NONE ? 1000 : d;
                if (d > latest) {
                    latest = d;
                    which = h;
                }
            }
        }
        return what == 0 ? which : latest == 1000 ? NONE : latest;
    }

    int goes(int p) {
        needPerson(p);
        int bits = 0;
        for (int h = 0; h < now.houses.size(); h++) {
            bits |= goesIn(now, p, h, dampOf(now)) ? 1 << h : 0;
        }
        return bits;
    }

    /** The houses of 0 to 7, how many lodge, how much is tight; without one house. */
    private int[] bestMatch(int without) {
        int[] best = null;
        int[] row = new int[10];
        boolean[][] fits = new boolean[8][8];
        for (int p = 0; p < now.people.size(); p++) {
            for (int h = 0; h < now.houses.size(); h++) {
                fits[p][h] = h != without && goesIn(now, p, h, dampOf(now));
            }
        }
        return matchFrom(0, 0, row, best, fits);
    }

    private int[] matchFrom(int p, int used, int[] row, int[] best, boolean[][] fits) {
        if (best != null && row[8] > best[8]) {
            return best;
        }
        if (p == now.people.size()) {
            boolean better = best == null || row[8] < best[8]
                || row[8] == best[8] && row[9] < best[9];
            return better ? row.clone() : best;
        }
        int[] found = best;
        for (int h = 0; h < now.houses.size(); h++) {
            if (fits[p][h] && (used >> h & 1) == 0) {
                row[p] = h;
                row[9] += now.tight(p, h);
                found = matchFrom(p + 1, used | 1 << h, row, found, fits);
                row[9] -= now.tight(p, h);
            }
        }
        row[p] = NONE;
        row[8]++;
        found = matchFrom(p + 1, used, row, found, fits);
        row[8]--;
        return found;
    }

    int match(int what) {
        needWhat(what, 2);
        return bestMatch(NONE)[8 + what];
    }

    int matched(int p) {
        needPerson(p);
        return bestMatch(NONE)[p];
    }

    /** The house, and how many stand in the ring. */
    private int[] traded(int p) {
        Set<Integer> left = new TreeSet<>();
        for (int q = 0; q < now.people.size(); q++) {
            if (now.people.get(q).house != NONE) {
                left.add(q);
            }
        }
        while (left.contains(p)) {
            Set<Integer> gone = new HashSet<>();
            for (int q : left) {
                List<Integer> path = new ArrayList<>();
                int at = q;
                while (!path.contains(at)) {
                    path.add(at);
                    at = now.in(want(left, at));
                }
                if (at == q) {
                    gone.addAll(path);
                    if (q == p) {
                        return new int[] {want(left, p), path.size()};
                    }
                }
            }
            left.removeAll(gone);
        }
        return new int[] {NONE, 0};
    }

    private int want(Set<Integer> left, int p) {
        int best = NONE;
        for (int h = 0; h < now.houses.size(); h++) {
            if (left.contains(now.in(h)) && (best == NONE || differs(p, h) < differs(p, best))) {
                best = h;
            }
        }
        return best;
    }

    private int differs(int p, int h) {
        return Math.abs(now.people.get(p).size - now.houses.get(h).size);
    }

    int trade(int p) {
        needPerson(p);
        return traded(p)[0];
    }

    int ringed(int p) {
        needPerson(p);
        return traded(p)[1];
    }

    int toStuff(int p, int h) {
        needPerson(p);
        needHouse(h);
        for (int less = 0; less <= 20; less++) {
            if (Math.max(1, now.houses.get(h).size - less) <= now.people.get(p).size) {
                return less;
            }
        }
        return NONE;
    }

    int toWait(int p, int h) {
        needPerson(p);
        needHouse(h);
        for (int d = 0; d <= 40; d++) {
            World w = in(d);
            if (goesIn(w, p, h, dampOf(w))) {
                return d;
            }
        }
        return NONE;
    }

    int round(int place) {
        need(place, 0, 30);
        Set<Integer> places = new TreeSet<>();
        for (int p = 0; p < now.people.size(); p++) {
            if (person(p, 4) > 0) {
                places.add(now.houses.get(now.people.get(p).house).place);
            }
        }
        return walk(place, places);
    }

    private int walk(int from, Set<Integer> places) {
        int least = places.isEmpty() ? 0 : Integer.MAX_VALUE;
        for (int to : places) {
            Set<Integer> others = new TreeSet<>(places);
            others.remove(to);
            least = Math.min(least, Math.abs(to - from) + walk(to, others));
        }
        return least;
    }

    // ---- what is seen

    int see(int h, int days, int worn) {
        needHouse(h);
        if (seen.size() == 8 || days < 0 || days > 20 || worn < 0 || worn > 99) {
            status[2]++;
            return NONE;
        }
        seen.add(new int[] {h, days, worn});
        return seen.size();
    }

    void forget() {
        seen.clear();
    }

    private boolean holds(World from) {
        World w = from;
        for (int d = 0; d <= 20; d++) {
            for (int[] s : seen) {
                if (s[1] == d && w.houses.get(s[0]).worn != s[2]) {
                    return false;
                }
            }
            w = in(w, 1);
        }
        return true;
    }

    private List<int[]> larges() {
        List<int[]> all = new ArrayList<>();
        for (int p = 0; p < now.people.size(); p++) {
            for (int s = 1; s <= 60; s++) {
                if (s != now.people.get(p).size && holds(with(p, s))) {
                    all.add(new int[] {p, s});
                }
            }
        }
        return all;
    }

    private World with(int p, int size) {
        World w = now.copy();
        w.people.get(p).size = size;
        return w;
    }

    int large(int what) {
        needWhat(what, 3);
        if (what == 2) {
            return holds(now) ? 1 : 0;
        }
        List<int[]> all = larges();
        return what == 0 ? all.size() : all.isEmpty() ? NONE : 100 * all.get(0)[0] + all.get(0)[1];
    }

    int next(int what) {
        needWhat(what, 2);
        List<World> then = new ArrayList<>();
        for (int[] l : larges()) {
            then.add(in(with(l[0], l[1]), 5));
        }
        int best = NONE;
        int most = 0;
        for (int h = 0; h < now.houses.size(); h++) {
            Set<Integer> worn = new HashSet<>();
            for (World w : then) {
                worn.add(w.houses.get(h).worn);
            }
            if (worn.size() > most) {
                most = worn.size();
                best = h;
            }
        }
        return what == 0 ? best : most;
    }

    // ---- chances, games, years

    int byDamp(int h, int days, int tenths) {
        needHouse(h);
        need(days, 1, 5);
        need(tenths, 0, 10);
        return chances(now, h, days, tenths);
    }

    private int chances(World w, int h, int days, int tenths) {
        if (days == 0) {
            return w.houses.get(h).burst ? 1 : 0;
        }
        World wet = w.copy();
        day(wet, 9);
        World dry = w.copy();
        day(dry, 0);
        return tenths * chances(wet, h, days - 1, tenths)
            + (10 - tenths) * chances(dry, h, days - 1, tenths);
    }

    int game(int p, int o, int h, int what) {
        needPerson(p);
        needPerson(o);
        needHouse(h);
        needWhat(what, 2);
        if (p == o) {
            throw new IllegalArgumentException();
        }
        int aloneP = goesIn(now, p, h, dampOf(now)) ? 20 - 2 * now.tight(p, h) : -3;
        int aloneO = goesIn(now, o, h, dampOf(now)) ? 20 - 2 * now.tight(o, h) : -3;
        boolean pHas = now.tight(p, h) == now.tight(o, h) ? p < o : now.tight(p, h) < now.tight(o, h);
        int[][] gainP = {{2, 2}, {aloneP, pHas ? aloneP : -5}};
        int[][] gainO = {{2, aloneO}, {2, pHas ? -5 : aloneO}};
        List<Integer> rests = new ArrayList<>();
        for (int a = 0; a < 2; a++) {
            for (int b = 0; b < 2; b++) {
                if (gainP[1 - a][b] <= gainP[a][b] && gainO[a][1 - b] <= gainO[a][b]) {
                    rests.add(10 * a + b);
                }
            }
        }
        return what == 0 ? rests.size() : rests.isEmpty() ? NONE : rests.get(0);
    }

    private int seed;

    private int draw(int n) {
        seed = (int) (seed * 1103515245L + 12345L);
        return ((seed >> 16) & 32767) % n;
    }

    int years(int from, int n, int what) {
        needWhat(what, 3);
        need(n, 0, 40);
        seed = from;
        World w = now.copy();
        for (int d = 0; d < n; d++) {
            int dampness = draw(10);
            if (!w.people.isEmpty() && !w.houses.isEmpty()) {
                int p = draw(w.people.size());
                int h = draw(w.houses.size());
                if (w.people.get(p).house == NONE && w.in(h) == NONE && goesIn(w, p, h, dampness)) {
                    w.people.get(p).house = h;
                }
            }
            day(w, dampness);
        }
        int burst = (int) w.houses.stream().filter(h -> h.burst).count();
        return what == 0 ? burst : what == 1 ? w.blisters() : Integer.bitCount(w.lodgers());
    }

    // ---- the rest

    int heirs(int h) {
        needHouse(h);
        int bits = 0;
        for (int p = 0; p < now.people.size(); p++) {
            bits |= (goes(p) >> h & 1) << p;
        }
        return bits;
    }

    int toGrow(int p, int h) {
        needPerson(p);
        needHouse(h);
        for (int d = 0; d <= 40; d++) {
            if (in(d).people.get(p).size >= now.houses.get(h).size) {
                return d;
            }
        }
        return NONE;
    }

    int paid(int days) {
        need(days, 0, 40);
        return in(days).blisters() - now.blisters();
    }

    int wornest(int days) {
        need(days, 0, 40);
        World w = in(days);
        int best = NONE;
        for (int h = 0; h < w.houses.size(); h++) {
            best = best == NONE || w.houses.get(h).worn > w.houses.get(best).worn ? h : best;
        }
        return best;
    }

    int dampest(int days) {
        need(days, 1, 40);
        int best = 0;
        for (int d = 0; d < days; d++) {
            best = dampOf(in(d)) > dampOf(in(best)) ? d : best;
        }
        return best;
    }

    int kept(int days) {
        need(days, 0, 40);
        World w = in(days);
        int bits = 0;
        for (int p = 0; p < w.people.size(); p++) {
            int h = now.people.get(p).house;
            bits |= h != NONE && w.people.get(p).house == h ? 1 << p : 0;
        }
        return bits;
    }

    int sorest(int days) {
        need(days, 0, 40);
        World w = in(days);
        int best = NONE;
        for (int p = 0; p < w.people.size(); p++) {
            best = best == NONE || w.people.get(p).blisters > w.people.get(best).blisters ? p : best;
        }
        return best;
    }

    int eased(int p, int h, int days) {
        needPerson(p);
        needHouse(h);
        need(days, 1, 40);
        int best = 0;
        int most = NONE;
        for (int d = 0; d < days; d++) {
            World w = in(d);
            int eases = ease(w, p, h, dampOf(w));
            if (eases > most) {
                most = eases;
                best = d;
            }
        }
        return best;
    }

    int free(int p) {
        needPerson(p);
        int best = NONE;
        for (int h = 0; h < now.houses.size(); h++) {
            boolean open = now.in(h) == NONE && (goes(p) >> h & 1) == 1;
            best = open && (best == NONE || now.tight(p, h) < now.tight(p, best)) ? h : best;
        }
        return best;
    }

    int larger(int p) {
        needPerson(p);
        return (int) now.people.stream().filter(o -> o.size > now.people.get(p).size).count();
    }

    int wide(int size) {
        need(size, 1, 60);
        int bits = 0;
        for (int h = 0; h < now.houses.size(); h++) {
            House house = now.houses.get(h);
            bits |= !house.burst && house.size >= size ? 1 << h : 0;
        }
        return bits;
    }

    int endures(int p, int h) {
        needPerson(p);
        needHouse(h);
        World w = now.copy();
        int old = w.in(h);
        if (old != NONE) {
            w.people.get(old).house = NONE;
        }
        w.people.get(p).house = h;
        int d = firstBurst(w, h);
        return d == 0 ? NONE : d;
    }

    void image() {
        imageWorld = now.copy();
        imageActs = new ArrayList<>();
        for (World w : acts) {
            imageActs.add(w.copy());
        }
        imageSeen = new ArrayList<>(seen);
    }

    boolean restore() {
        if (imageWorld == null) {
            return false;
        }
        now = imageWorld.copy();
        acts = new ArrayList<>();
        for (World w : imageActs) {
            acts.add(w.copy());
        }
        seen = new ArrayList<>(imageSeen);
        return true;
    }
}
