import java.util.ArrayList;
import java.util.Collections;
import java.util.HashSet;
import java.util.LinkedHashSet;
import java.util.List;
import java.util.Map;
import java.util.Random;
import java.util.Set;
import java.util.regex.Matcher;
import java.util.regex.Pattern;

/**
 * Texts, right and spoilt ones, held against the document's own grammar: a token can stand where it does, if
 * some right text goes on with it. Of each token all FAULTS are told, and then the least is taken.
 */
public final class GrammarTest {
    private static final Due due = new Due();
    private static final int NONE = HornHouses.NONE;

    private static final String TOWN = "TOWN: LINE*.";
    private static final String LINE = "LINE: ('house' SIZE GIVE PLACE | 'person' SIZE GROWS ['in' HOUSE] | "
        + "'damp' NUMBER NUMBER* | ('eases' | 'bursts') EXPR) ';'";
    private static final String RULE = "EXPR: AND ('or' AND)*. AND: NOT ('and' NOT)*. NOT: 'not' NOT | "
        + "SUM [('<' | '=') SUM]. SUM: PRODUCT (('+' | '-') PRODUCT)*. PRODUCT: PART (('*' | '/') PART)*. "
        + "PART: NUMBER | VALUE | '(' EXPR ')'.";
    private static final Grammar GRAMMAR = new Grammar(TOWN, LINE, RULE);

    private static final Pattern TOKEN = Pattern.compile("[a-z]+|[0-9]+|[^ \n]", Pattern.DOTALL);
    private static final Set<String> VALUES = Set.of("heel", "size", "give", "worn", "damp", "day");
    private static final Map<String, int[]> TOLD = Map.of("SIZE", new int[] {1, 60}, "GIVE", new int[] {0, 9},
        "PLACE", new int[] {0, 30}, "GROWS", new int[] {0, 9}, "DAMP", new int[] {0, 9});
    private static final Set<String> NUMBERS = Set.of("SIZE", "GIVE", "PLACE", "GROWS", "HOUSE", "NUMBER");

    // What of the text so far counts for a FAULT.
    private Set<Grammar.Need> needs = new LinkedHashSet<>();
    private String lineOf = "";
    private String ahead = "";
    private int houses = 0;
    private int people = 0;
    private int damps = 0;
    private int nots = 0;
    private final Set<String> rulesTold = new HashSet<>();
    private final Set<Integer> homes = new HashSet<>();
    private int fault = 0;
    private int place = NONE;

    public static void main(String[] args) {
        int texts = args.length > 0 ? Integer.parseInt(args[0]) : 20000;
        notation();
        tokenPairs();
        randomTexts(texts);
        due.end("GrammarTest");
    }

    private static void notation() {
        due.says(0, "In quotes is what stands there, [ ] perhaps, * any number of times, | one of some. TOWN: LINE*. "
            + "LINE: ('house' SIZE GIVE PLACE | 'person' SIZE GROWS ['in' HOUSE] | "
            + "'damp' NUMBER NUMBER* | ('eases' | 'bursts') EXPR) ';', all in capitals but EXPR being NUMBERS.");
        hold("");
        hold("house 9 0 0;");
        hold("house 9 0 0;person 9 0 in 0;person 9 0;damp 1 2 3;eases heel;bursts tight;");
        hold("house SIZE 0 0;");
        hold("person 9 0 in house;");
        hold("person 9 0 in 0 in 0;");
        hold("damp heel;");
        hold("house 9 0 0");
    }

    private static void hold(String text) {
        GrammarTest finder = new GrammarTest();
        finder.read(text);
        HornHouses x = new HornHouses();
        due.is("town of '" + text + "'", Due.tell(x, text), finder.fault);
        due.is("place in '" + text + "'", x.fault(), finder.place);
    }

    // ---- the faults of a text

    private void read(String text) {
        needs.add(GRAMMAR.start("TOWN"));
        Matcher tokens = TOKEN.matcher(text);
        while (tokens.find()) {
            Set<Grammar.Need> ways = GRAMMAR.ways(needs);
            fault = faultOf(tokens.group(), ways);
            if (fault != 0) {
                place = tokens.start();
                return;
            }
            take(tokens.group(), ways);
        }
        if (!GRAMMAR.ways(needs).contains(null)) {
            fault = 1;
            place = text.length();
        }
    }

    private int faultOf(String token, Set<Grammar.Need> ways) {
        List<Integer> faults = new ArrayList<>();
        boolean mayStand = false;
        for (Grammar.Need way : ways) {
            mayStand |= way != null && (stands(token, way) || way.terminal().equals("VALUE") && isWord(token));
        }
        if (!mayStand) {
            return 1;
        }
        tooMuch(token, ways, faults);
        boolean asPart = ways.stream().anyMatch(w -> w != null && w.terminal().equals("VALUE"));
        boolean asIs = ways.stream().anyMatch(w -> w != null && stands(token, w));
        if (asPart && isWord(token) && !asIs) {
            faults.add(3);
        }
        if (needsNumber(ways, "HOUSE") && isNumber(token) && token.length() < 5) {
            if (Integer.parseInt(token) >= houses) {
                faults.add(3);
            }
            if (homes.contains(Integer.parseInt(token))) {
                faults.add(4);
            }
        }
        if (lineOf.isEmpty() && rulesTold.contains(token)) {
            faults.add(5);
        }
        return faults.isEmpty() ? 0 : Collections.min(faults);
    }

    private void tooMuch(String token, Set<Grammar.Need> ways, List<Integer> faults) {
        boolean isNumber = isNumber(token);
        boolean inRule = lineOf.equals("eases") || lineOf.equals("bursts");
        if (isNumber && token.length() >= 5) {
            faults.add(2);
        } else if (isNumber && !inRule) {
            for (Map.Entry<String, int[]> told : TOLD.entrySet()) {
                boolean here = told.getKey().equals("DAMP") ? lineOf.equals("damp") : needsNumber(ways, told.getKey());
                int number = Integer.parseInt(token);
                if (here && (number < told.getValue()[0] || number > told.getValue()[1])) {
                    faults.add(2);
                }
            }
        }
        boolean ninth = lineOf.isEmpty() && (token.equals("house") && houses == 8 || token.equals("person") && people == 8)
            || lineOf.equals("damp") && isNumber && damps == 8;
        boolean deep = inRule && ahead.equals("(") && openRules(ways) == 6;
        boolean seventh = inRule && token.equals("not") && nots == 6;
        if (ninth || deep || seventh) {
            faults.add(2);
        }
    }

    /** Within how many others the EXPR stands in which the next token does. */
    private static int openRules(Set<Grammar.Need> ways) {
        int most = 0;
        for (Grammar.Need way : ways) {
            if (way != null && way.terminal().equals("VALUE")) {
                most = Math.max(most, way.count("')'"));
            }
        }
        return most;
    }

    private static boolean needsNumber(Set<Grammar.Need> ways, String name) {
        return ways.stream().anyMatch(w -> w != null && w.terminal().equals(name));
    }

    private boolean stands(String token, Grammar.Need way) {
        if (way.isQuoted()) {
            return way.terminal().equals("'" + token + "'");
        }
        if (way.terminal().equals("VALUE")) {
            return VALUES.contains(token) || lineOf.equals("bursts") && token.equals("tight");
        }
        return NUMBERS.contains(way.terminal()) && isNumber(token);
    }

    private void take(String token, Set<Grammar.Need> ways) {
        needs = new LinkedHashSet<>();
        for (Grammar.Need way : ways) {
            if (way != null && stands(token, way)) {
                needs.add(way.rest);
                if (way.terminal().equals("HOUSE")) {
                    homes.add(Integer.parseInt(token));
                }
            }
        }
        damps += lineOf.equals("damp") && isNumber(token) ? 1 : 0;
        nots = token.equals("not") ? nots + 1 : 0;
        if (lineOf.isEmpty()) {
            houses += token.equals("house") ? 1 : 0;
            people += token.equals("person") ? 1 : 0;
            if (token.equals("damp") || token.equals("eases") || token.equals("bursts")) {
                rulesTold.add(token);
            }
        }
        lineOf = token.equals(";") ? "" : lineOf.isEmpty() ? token : lineOf;
        ahead = token;
    }

    private static boolean isWord(String token) {
        return token.charAt(0) >= 'a' && token.charAt(0) <= 'z';
    }

    private static boolean isNumber(String token) {
        return token.charAt(0) >= '0' && token.charAt(0) <= '9';
    }

    // ---- texts

    private static final String[] TOKENS = {"house", "person", "damp", "eases", "bursts", "in", "and", "or", "not",
        "heel", "size", "give", "worn", "day", "tight", "x", "0", "1", "7", "8", "9", "10", "30", "31", "60", "61",
        "9999", "10000", "00000", ";", "(", ")", "+", "-", "*", "/", "<", "=", "A", "{", "`", ":", "\t", "\r",
        "\0", "\u00e9", "_", "."};

    /** Behind each beginning any two tokens, and what makes a line of it. */
    private static void tokenPairs() {
        due.says(0, "FAULTS, the first along the text, at a TOKEN's first byte, of one TOKEN the least");
        String[] begun = {"", "house ", "house 9 ", "house 9 0 ", "house 9 0 0 ", "house 9 0 0;person ",
            "house 9 0 0;person 9 ", "house 9 0 0;person 9 0 ", "house 9 0 0;person 9 0 in ",
            "house 9 0 0;person 9 0 in 0 ", "house 9 0 0;person 9 0 in 0;person 9 0 in ", "damp ", "damp 1 ",
            "damp 1 2 3 4 5 6 7 ", "damp 1 2 3 4 5 6 7 8 ", "damp 1;eases 1;bursts 1;", "house 9 0 0;".repeat(8),
            "person 9 0;".repeat(8), "eases ", "bursts ", "eases not ", "eases 1 ", "eases 1 and ", "eases 1 < ",
            "eases 1 < 1 ", "eases 1 = 1 ", "eases 1 + ", "eases 1 * ", "eases ( ", "eases ( 1 ", "eases (1 < 1 ",
            "eases (1) ", "eases (((((", "eases ((((((", "eases (((((((", "bursts (((((1", "eases (((((not ",
            "eases not not not not not ", "eases not not not not not not ", "eases (not not not not not not ",
            "eases not not not (not not not ", "eases not not not not not not (", "eases 1 < not ",
            "house 9 0 0;".repeat(9), "eases 1;eases ", "eases 1;bursts (((((", "bursts 1 + ", "bursts tight "};
        for (String beginning : begun) {
            for (String one : TOKENS) {
                for (String other : TOKENS) {
                    hold(beginning + one + " " + other + " ;");
                }
                hold(beginning + one);
            }
            hold(beginning);
        }
    }

    private static void randomTexts(int texts) {
        due.says(0, "the first along the text");
        Random random = new Random(11);
        for (int i = 0; i < texts; i++) {
            List<String> tokens = town(random);
            int changes = random.nextInt(4);
            for (int c = 0; c < changes; c++) {
                spoil(tokens, random);
            }
            String text = joined(tokens, random);
            hold(text.length() > 700 ? text.substring(0, 700) : text);
        }
    }

    private static List<String> town(Random random) {
        List<String> tokens = new ArrayList<>();
        int lines = random.nextInt(12);
        int houses = 0;
        for (int i = 0; i < lines; i++) {
            switch (random.nextInt(7)) {
                case 0:
                case 1:
                    add(tokens, "house", number(random, 60), number(random, 9), number(random, 30));
                    houses++;
                    break;
                case 2:
                case 3:
                    add(tokens, "person", number(random, 60), number(random, 9));
                    if (houses > 0 && random.nextBoolean()) {
                        add(tokens, "in", String.valueOf(random.nextInt(houses)));
                    }
                    break;
                case 4:
                    add(tokens, "damp");
                    for (int d = random.nextInt(8); d >= 0; d--) {
                        add(tokens, number(random, 9));
                    }
                    break;
                default:
                    boolean bursts = random.nextBoolean();
                    add(tokens, bursts ? "bursts" : "eases");
                    rule(tokens, random, random.nextInt(8), bursts);
            }
            add(tokens, ";");
        }
        return tokens;
    }

    private static String number(Random random, int most) {
        return String.valueOf(1 + random.nextInt(random.nextInt(30) == 0 ? most + 2 : most));
    }

    private static void add(List<String> tokens, String... more) {
        tokens.addAll(List.of(more));
    }

    private static void rule(List<String> tokens, Random random, int depth, boolean bursts) {
        for (int n = random.nextInt(5) == 0 ? random.nextInt(8) : 0; n > 0; n--) {
            add(tokens, "not");
        }
        part(tokens, random, depth, bursts);
        int compared = 0;
        for (int more = random.nextInt(4); more > 0; more--) {
            int kind = random.nextInt(4);
            boolean comparing = kind == 2 && compared == 0;
            compared += comparing ? 1 : 0;
            if (kind == 3) {
                add(tokens, random.nextBoolean() ? "and" : "or");
                compared = 0;
            } else {
                add(tokens, comparing ? random.nextBoolean() ? "<" : "=" : String.valueOf("+-*/".charAt(random.nextInt(4))));
            }
            part(tokens, random, depth / 2, bursts);
        }
    }

    private static void part(List<String> tokens, Random random, int depth, boolean bursts) {
        String[] values = {"heel", "size", "give", "worn", "damp", "day", "tight"};
        if (depth > 0 && random.nextInt(4) != 0) {
            add(tokens, "(");
            rule(tokens, random, depth - 1, bursts);
            add(tokens, ")");
        } else {
            add(tokens, random.nextBoolean() ? number(random, 9999) : values[random.nextInt(bursts ? 7 : 6)]);
        }
    }

    private static void spoil(List<String> tokens, Random random) {
        int at = random.nextInt(tokens.size() + 1);
        String other = TOKENS[random.nextInt(TOKENS.length)];
        int how = random.nextInt(5);
        if (how == 0 || at == tokens.size()) {
            tokens.add(at, other);
        } else if (how == 1) {
            tokens.remove(at);
        } else if (how == 2) {
            tokens.set(at, other);
        } else if (how == 3) {
            tokens.add(at, tokens.get(random.nextInt(tokens.size())));
        } else if (random.nextInt(3) == 0) {
            tokens.subList(at, tokens.size()).clear();
        } else {
            Collections.swap(tokens, at, random.nextInt(tokens.size()));
        }
    }

    /** With blanks, or without: what runs together then is read by both sides alike. */
    private static String joined(List<String> tokens, Random random) {
        StringBuilder text = new StringBuilder();
        int dense = random.nextInt(4);
        for (String token : tokens) {
            text.append(token);
            boolean bare = dense == 0 && !isWord(token) && !isNumber(token);
            text.append(bare ? "" : random.nextInt(30) == 0 && dense == 1 ? "" : random.nextInt(5) == 0 ? "\n " : " ");
        }
        return text.toString();
    }
}
