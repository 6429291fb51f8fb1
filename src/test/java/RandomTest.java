import java.lang.reflect.InvocationTargetException;
import java.lang.reflect.Method;
import java.nio.charset.StandardCharsets;
import java.util.ArrayList;
import java.util.List;
import java.util.Random;

/** Random runs of calls, held against Model call by call. The seeds are written, so each run is the same. */
public final class RandomTest {
    /** A call, and of each argument what it is: h a house, p a person, else the values it takes. */
    private static final String[] CALLS = {
        "count 0..15", "house h 0..7", "person p 0..4", "eases p h", "days 1..20", "putIn p h",
        "out p", "stuff h 1..20", "change p p", "letIn", "undo", "then p 0..40 0..2", "worn h 0..40",
        "burst h", "wriggles p", "barefoot 0..40", "last 0..1", "goes p", "match 0..1", "matched p",
        "trade p", "toStuff p h", "toWait p h", "round 0..30", "see h 0..20 0..99", "large 0..2",
        "next 0..1", "byDamp h 1..5 0..10", "game p p h 0..1", "years s 0..40 0..2", "heirs h",
        "toGrow p h", "paid 0..40", "wornest 0..40", "dampest 1..40", "kept 0..40", "sorest 0..40",
        "eased p h 1..40", "free p", "larger p", "wide 1..60", "endures p h", "ringed p", "image",
        "restore", "fault", "forget"};
    private static final String[] ACTING = {
        "days 1..20", "days 1..3", "putIn p h", "putIn p h", "out p", "stuff h 1..20", "change p p",
        "letIn", "see h 0..20 0..99", "see h 0..2 0..9", "undo"};
    /** These try all that could be in the model, which is slow there. */
    private static final List<String> SLOW = List.of("large", "next", "match", "matched");

    private final Random random;
    private final HornHouses houses = new HornHouses();
    private final Model model = new Model();
    private final StringBuilder told = new StringBuilder();
    private int many = 0;
    private int wrong = 0;

    private RandomTest(long seed) {
        random = new Random(seed);
    }

    public static void main(String[] args) throws Exception {
        int runs = args.length > 0 ? Integer.parseInt(args[0]) : 500;
        int wrong = 0;
        long calls = 0;
        for (int seed = 0; seed < runs && wrong < 5; seed++) {
            RandomTest run = new RandomTest(seed);
            run.go();
            wrong += run.wrong;
            calls += run.many;
            if (run.wrong != 0) {
                System.out.println("seed " + seed + ":\n" + run.told);
            }
        }
        System.out.println(runs + " random runs, " + calls + " calls, " + wrong + " wrong");
        if (wrong != 0) {
            System.exit(1);
        }
    }

    private void go() throws Exception {
        if (random.nextInt(4) == 0) {
            ask(10);
        }
        while (many < 420 && wrong == 0) {
            tell(random.nextInt(3) == 0 ? spoilt(text()) : text());
            int rounds = random.nextInt(8);
            for (int r = 0; r < rounds && many < 420; r++) {
                act(random.nextInt(6));
                ask(random.nextInt(25));
            }
            if (random.nextInt(10) == 0) {
                act(60);
                ask(5);
            }
        }
    }

    private void act(int n) throws Exception {
        for (int i = 0; i < n && many < 480 && wrong == 0; i++) {
            String call = ACTING[random.nextInt(ACTING.length)];
            // Few texts last long under acts that can't be done for want of anybody.
            if (model.count(0) > 0 && model.count(1) > 0 || random.nextInt(5) == 0) {
                call(call);
            }
        }
    }

    private void ask(int n) throws Exception {
        for (int i = 0; i < n && many < 480 && wrong == 0; i++) {
            String call = CALLS[random.nextInt(CALLS.length)];
            boolean bare = model.count(0) == 0 || model.count(1) == 0;
            boolean slow = SLOW.contains(call.split(" ")[0]);
            if (random.nextInt(bare ? 5 : slow ? 4 : 1) == 0) {
                call(call);
            }
        }
    }

    // ---- calls

    private void call(String call) throws Exception {
        String[] parts = call.split(" ");
        int[] args = new int[parts.length - 1];
        for (int i = 0; i < args.length; i++) {
            args[i] = argument(parts[i + 1]);
        }
        boolean known = parts[0].equals("see") && args[0] >= 0 && args[0] < model.count(0);
        if (known && args[1] >= 0 && args[1] <= 20 && random.nextInt(4) != 0) {
            args[2] = model.worn(args[0], args[1]);
        }
        compare(parts[0], args);
    }

    private int argument(String kind) {
        if (kind.equals("h")) {
            return random.nextInt(30) == 0 ? random.nextInt(12) - 2
                : random.nextInt(Math.max(1, model.count(0)));
        }
        if (kind.equals("p")) {
            return random.nextInt(30) == 0 ? random.nextInt(12) - 2
                : random.nextInt(Math.max(1, model.count(1)));
        }
        if (kind.equals("s")) {
            return random.nextInt();
        }
        String[] ends = kind.split("\\.\\.");
        int least = Integer.parseInt(ends[0]);
        int most = Integer.parseInt(ends[1]);
        switch (random.nextInt(20)) {
            case 0: return least - 1;
            case 1: return most + 1;
            case 2: return random.nextInt();
            default: return least + random.nextInt(most - least + 1);
        }
    }

    private void compare(String name, int... args) throws Exception {
        many++;
        String due = answer(model, name, args);
        String got = answer(houses, name, args);
        told.append(name).append(java.util.Arrays.toString(args)).append(" -> ").append(due);
        if (!due.equals(got)) {
            told.append(" BUT ").append(got);
            wrong++;
        }
        told.append('\n');
    }

    private static String answer(Object on, String name, int[] args) throws Exception {
        Class<?>[] types = new Class<?>[args.length];
        Object[] values = new Object[args.length];
        for (int i = 0; i < args.length; i++) {
            types[i] = int.class;
            values[i] = args[i];
        }
        Method method = on.getClass().getDeclaredMethod(name, types);
        try {
            return String.valueOf(method.invoke(on, values));
        } catch (InvocationTargetException e) {
            return e.getCause().getClass().getName();
        }
    }

    // ---- texts

    private void tell(String text) throws Exception {
        byte[] bytes = text.getBytes(StandardCharsets.ISO_8859_1);
        if (many + bytes.length / 20 > 470) {
            many = 500;
            return;
        }
        told.append("text: ").append(text).append('\n');
        for (int at = 0; at < bytes.length; at += 20) {
            int[] numbers = new int[5];
            for (int i = 0; i < 20; i++) {
                int b = at + i < bytes.length ? bytes[at + i] & 255 : random.nextInt(256);
                numbers[i / 4] = numbers[i / 4] << 8 | b;
            }
            compare("feed", numbers);
        }
        if (random.nextInt(20) == 0) {
            compare("town", random.nextBoolean() ? -1 - random.nextInt(5) : bytes.length + 20);
        }
        compare("town", random.nextInt(30) == 0 ? random.nextInt(bytes.length + 1) : bytes.length);
        compare("fault");
        compare("count", 12);
    }

    private String text() {
        List<String> lines = new ArrayList<>();
        int houseCount = howMany();
        int personCount = howMany();
        int base = 1 + random.nextInt(50);
        int spread = 1 + random.nextInt(30);
        // Of a size that is larger than the houses' by what a horn may just ease, at times.
        int larger = random.nextBoolean() ? 0 : random.nextInt(12);
        for (int h = 0; h < houseCount; h++) {
            lines.add("house " + near(base, spread) + " " + random.nextInt(10) + " "
                + random.nextInt(31) + ";");
        }
        List<Integer> homes = new ArrayList<>();
        for (int h = 0; h < houseCount; h++) {
            homes.add(h);
        }
        for (int p = 0; p < personCount; p++) {
            String home = homes.isEmpty() || random.nextInt(4) == 0 ? ""
                : " in " + homes.remove(random.nextInt(homes.size()));
            lines.add("person " + near(base + larger, spread) + " "
                + (random.nextBoolean() ? random.nextInt(3) : random.nextInt(10)) + home + ";");
        }
        if (random.nextBoolean()) {
            insert(lines, dampLine());
        }
        if (random.nextBoolean()) {
            insert(lines, "eases " + rule(false) + ";");
        }
        if (random.nextBoolean()) {
            insert(lines, "bursts " + rule(true) + ";");
        }
        String whole = String.join(random.nextBoolean() ? "" : random.nextBoolean() ? " " : "\n", lines);
        return whole.length() > 700 ? whole.substring(0, 700) : whole;
    }

    private int howMany() {
        switch (random.nextInt(24)) {
            case 0: return 9;
            case 1: return 0;
            default: return 1 + random.nextInt(random.nextBoolean() ? 4 : 8);
        }
    }

    private int near(int base, int spread) {
        return Math.max(1, Math.min(60, base + random.nextInt(spread)));
    }

    private void insert(List<String> lines, String line) {
        lines.add(random.nextInt(lines.size() + 1), line);
    }

    private String dampLine() {
        StringBuilder line = new StringBuilder("damp");
        int n = 1 + random.nextInt(random.nextInt(10) == 0 ? 9 : 8);
        for (int i = 0; i < n; i++) {
            line.append(' ').append(random.nextInt(10));
        }
        return line.append(';').toString();
    }

    private String rule(boolean ofBursts) {
        switch (random.nextInt(ofBursts ? 7 : 3)) {
            case 0: return expression(ofBursts, random.nextInt(4));
            case 1: return expression(ofBursts, random.nextInt(8));
            case 3: return "tight" + sign() + random.nextInt(20);
            case 4: return "worn-" + random.nextInt(60) + "+damp";
            case 5: return "tight*" + random.nextInt(3) + "+damp-" + (4 + random.nextInt(20));
            case 6: return random.nextInt(9) + "<damp and " + random.nextInt(30) + "<worn+tight";
            default: return "give+damp*" + random.nextInt(3) + "+" + expression(ofBursts, 1);
        }
    }

    private String sign() {
        return String.valueOf("+-*/<=".charAt(random.nextInt(6)));
    }

    private String expression(boolean ofBursts, int depth) {
        StringBuilder s = new StringBuilder();
        int joined = 1 + random.nextInt(2);
        for (int i = 0; i < joined; i++) {
            if (i > 0) {
                s.append(random.nextBoolean() ? " or " : " and ");
            }
            int nots = random.nextInt(4) == 0 ? random.nextInt(8) : 0;
            for (int n = 0; n < nots; n++) {
                s.append("not ");
            }
            s.append(sum(ofBursts, depth));
            if (random.nextInt(3) == 0) {
                s.append(random.nextBoolean() ? '<' : '=').append(sum(ofBursts, depth));
            }
        }
        return s.toString();
    }

    private String sum(boolean ofBursts, int depth) {
        StringBuilder s = new StringBuilder(part(ofBursts, depth));
        int more = random.nextInt(3);
        for (int i = 0; i < more; i++) {
            s.append("+-*/".charAt(random.nextInt(4))).append(part(ofBursts, depth / 2));
        }
        return s.toString();
    }

    private String part(boolean ofBursts, int depth) {
        if (depth > 0 && random.nextInt(5) != 0) {
            return "(" + expression(ofBursts, depth - 1) + ")";
        }
        if (random.nextInt(3) == 0) {
            return String.valueOf(random.nextInt(random.nextInt(4) == 0 ? 12000 : 20));
        }
        String[] names = {"heel", "size", "give", "worn", "damp", "day", "tight"};
        return names[random.nextInt(ofBursts || random.nextInt(30) == 0 ? 7 : 6)];
    }

    /** Something in it is put out, in, or in place of something. */
    private String spoilt(String text) {
        StringBuilder s = new StringBuilder(text);
        if (random.nextInt(4) == 0) {
            String[] lines = text.split(";");
            s.append(lines[random.nextInt(lines.length)]).append(';');
            return s.length() > 700 ? s.substring(0, 700) : s.toString();
        }
        String[] put = {";", "(", ")", "+", "<", "=", " not ", " in ", " house ", " person ", "damp ",
            " or ", " and ", "tight", " 5 ", " 0 ", "99999", "00001", " 61 ", "A", "\t", "\u00e9", " ",
            "eases ", "bursts ", "heel", ",", "\0"};
        int times = 1 + random.nextInt(2);
        for (int i = 0; i < times; i++) {
            int at = random.nextInt(s.length() + 1);
            int end = Math.min(s.length(), at + (random.nextBoolean() ? 0 : random.nextInt(4)));
            s.replace(at, end, random.nextInt(4) == 0 ? "" : put[random.nextInt(put.length)]);
        }
        return s.length() > 700 ? s.substring(0, 700) : s.toString();
    }
}
