import java.util.ArrayList;
import java.util.HashMap;
import java.util.LinkedHashSet;
import java.util.List;
import java.util.Map;
import java.util.Set;

/**
 * The document's grammar, read in the document's own notation, and by it what can stand behind some
 * tokens: all that a text may still need is kept, way by way, and no token is looked at ahead of its turn.
 */
final class Grammar {
    /** What a text may still need: a piece, and then the rest; null needs nothing. */
    static final class Need {
        final String[] piece;
        final Need rest;

        Need(String[] piece, Need rest) {
            this.piece = piece;
            this.rest = rest;
        }

        /** A quoted token without its quotes, or a name that isn't told by others (NUMBER, VALUE, SIZE ..). */
        String terminal() {
            return piece[0];
        }

        boolean isQuoted() {
            return piece[0].startsWith("'");
        }

        int count(String terminal) {
            int many = 0;
            for (Need n = this; n != null; n = n.rest) {
                many += n.piece.length == 1 && n.piece[0].equals(terminal) ? 1 : 0;
            }
            return many;
        }
    }

    private final Map<String, String[]> rules = new HashMap<>();

    /** Told as "TOWN: LINE*. LINE: .. ." */
    Grammar(String... tellings) {
        for (String telling : tellings) {
            List<String> words = words(telling);
            int from = 0;
            for (int i = 0; i < words.size(); i++) {
                if (words.get(i).equals(".")) {
                    rules.put(words.get(from), words.subList(from + 2, i).toArray(new String[0]));
                    from = i + 1;
                }
            }
        }
    }

    private static List<String> words(String telling) {
        List<String> words = new ArrayList<>();
        int i = 0;
        while (i < telling.length()) {
            int end = i + 1;
            if (telling.charAt(i) == '\'') {
                end = telling.indexOf('\'', i + 1) + 1;
            } else if (Character.isUpperCase(telling.charAt(i))) {
                while (end < telling.length() && Character.isUpperCase(telling.charAt(end))) {
                    end++;
                }
            }
            if (telling.charAt(i) != ' ') {
                words.add(telling.substring(i, end));
            }
            i = end;
        }
        if (!words.get(words.size() - 1).equals(".")) {
            words.add(".");
        }
        return words;
    }

    Need start(String name) {
        return new Need(new String[] {name}, null);
    }

    /** All ways in which one of these needs goes on with a terminal; a null among them: it may end here. */
    Set<Need> ways(Set<Need> needs) {
        Set<Need> found = new LinkedHashSet<>();
        for (Need need : needs) {
            unfold(need, found, 0);
        }
        return found;
    }

    private void unfold(Need need, Set<Need> found, int depth) {
        if (depth > 200) {
            throw new IllegalStateException("a rule begins with itself");
        }
        if (need == null) {
            found.add(null);
            return;
        }
        String[] piece = need.piece;
        if (piece.length == 0) {
            unfold(need.rest, found, depth + 1);
            return;
        }
        if (piece.length == 1) {
            String[] rule = rules.get(piece[0]);
            if (rule == null) {
                found.add(need);
            } else {
                unfold(new Need(rule, need.rest), found, depth + 1);
            }
            return;
        }
        List<String[]> choices = split(piece, "|");
        if (choices.size() > 1) {
            for (String[] choice : choices) {
                unfold(new Need(choice, need.rest), found, depth + 1);
            }
            return;
        }
        int end = groupEnd(piece);
        boolean repeated = end < piece.length && piece[end].equals("*");
        String[] first = first(piece, end);
        String[] others = cut(piece, repeated ? end + 1 : end, piece.length);
        Need rest = new Need(others, need.rest);
        if (repeated) {
            unfold(rest, found, depth + 1);
            String[] again = cut(piece, 0, end + 1);
            unfold(new Need(first, new Need(again, rest)), found, depth + 1);
        } else if (piece[0].equals("[")) {
            unfold(rest, found, depth + 1);
            unfold(new Need(first, rest), found, depth + 1);
        } else {
            unfold(new Need(first, rest), found, depth + 1);
        }
    }

    /** Where the first item of a row ends: a word, or all of a parenthesis. */
    private static int groupEnd(String[] piece) {
        int open = 0;
        for (int i = 0; i < piece.length; i++) {
            open += piece[i].equals("(") || piece[i].equals("[") ? 1 : 0;
            open -= piece[i].equals(")") || piece[i].equals("]") ? 1 : 0;
            if (open == 0) {
                return i + 1;
            }
        }
        throw new IllegalStateException("an open parenthesis");
    }

    private static String[] first(String[] piece, int end) {
        return end == 1 ? cut(piece, 0, 1) : cut(piece, 1, end - 1);
    }

    private static String[] cut(String[] row, int from, int to) {
        return java.util.Arrays.copyOfRange(row, from, to);
    }

    private static List<String[]> split(String[] row, String by) {
        List<String[]> parts = new ArrayList<>();
        int open = 0;
        int from = 0;
        for (int i = 0; i < row.length; i++) {
            open += row[i].equals("(") || row[i].equals("[") ? 1 : 0;
            open -= row[i].equals(")") || row[i].equals("]") ? 1 : 0;
            if (open == 0 && row[i].equals(by)) {
                parts.add(cut(row, from, i));
                from = i + 1;
            }
        }
        parts.add(cut(row, from, row.length));
        return parts;
    }
}
