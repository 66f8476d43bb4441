import java.util.ArrayList;
import java.util.HashMap;
import java.util.HashSet;
import java.util.List;
import java.util.Map;
import java.util.Set;

/**
 * A text read in two goes: first each token is held against a grammar written as rules, with a pile
 * of what is still to come; then the laws, known to be whole, are reckoned from their tokens.
 */
final class PlainText {
    static final PlainText NONE = new PlainText();

    /** The rules: what stands for a name, each way a row of names and tokens; "-" is nothing. */
    private static final Map<String, List<String[]>> RULES = new HashMap<>();

    static {
        rule("TEXT", "plate heat HEAT ; LINES");
        rule("LINES", "LINE ; LINES", "-");
        rule("LINE", "cake SIZE UPS", "may : TRUTH/m", "habit : SUM/h");
        rule("UPS", "up UPS", "-");
        for (String law : new String[] {"/m", "/h"}) {
            rule("SUM" + law, "TERM" + law + " SUMS" + law);
            rule("SUMS" + law, "+ TERM" + law + " SUMS" + law, "- TERM" + law + " SUMS" + law, "-");
            rule("TERM" + law, "ATOM" + law + " ATOMS" + law);
            rule("ATOMS" + law, "* ATOM" + law + " ATOMS" + law, "-");
            rule("ATOM" + law, "N", "( SUM" + law + " ) OUT",
                    "if TRUTH" + law + " then SUM" + law + " else SUM" + law + " end OUT",
                    "top", "under", "up", "heat", law.equals("/m") ? "many" : "right");
            rule("TRUTH" + law, "BOTH" + law + " BOTHS" + law);
            rule("BOTHS" + law, "or BOTH" + law + " BOTHS" + law, "-");
            rule("BOTH" + law, "UNIT" + law + " UNITS" + law);
            rule("UNITS" + law, "and UNIT" + law + " UNITS" + law, "-");
            rule("UNIT" + law, "not UNIT" + law + " OUT", "[ TRUTH" + law + " ] OUT",
                    "SUM" + law + " SIGN SUM" + law);
        }
        rule("SIGN", "=", "<", ">");
    }

    private static void rule(String name, String... ways) {
        List<String[]> rows = new ArrayList<>();
        for (String way : ways) {
            rows.add(way.equals("-") ? new String[0] : way.split(" "));
        }
        RULES.put(name, rows);
    }

    int fault;
    int place;
    int heat;
    int lines;
    final List<Integer> cakes = new ArrayList<>();
    List<String> may;
    List<String> habit;

    private final List<String> tokens = new ArrayList<>();
    private final List<Integer> places = new ArrayList<>();

    private PlainText() {
        cakes.add(1);
    }

    PlainText(String text) {
        split(text);
        hold();
        if (fault == 0) {
            take();
        }
    }

    private void split(String text) {
        int at = 0;
        while (at < text.length()) {
            char c = text.charAt(at);
            int end = at + 1;
            if (c == ' ' || c == '\n') {
                at++;
                continue;
            }
            if (Character.toString(c).matches("[a-z]")) {
                while (end < text.length() && Character.toString(text.charAt(end)).matches("[a-z]")) {
                    end++;
                }
            } else if (Character.toString(c).matches("[0-9]")) {
                while (end < text.length() && Character.toString(text.charAt(end)).matches("[0-9]")) {
                    end++;
                }
            }
            String token = text.substring(at, end);
            boolean is = token.matches("[a-z]+") || token.matches("[0-9]{1,3}") || token.matches("[;:+*()\\[\\]=<>-]");
            tokens.add(is ? token : "?");
            places.add(at);
            at = end;
        }
        tokens.add("$");
        places.add(text.length());
    }

    private static boolean isNumber(String token) {
        return token.matches("[0-9]+");
    }

    /** Whether a name can begin with a token (or be nothing, if it can). */
    private static boolean begins(String name, String token) {
        if (name.equals("N") || name.equals("HEAT") || name.equals("SIZE")) {
            return isNumber(token);
        }
        if (!RULES.containsKey(name)) {
            return name.equals(token);
        }
        for (String[] way : RULES.get(name)) {
            if (way.length > 0 && begins(way[0], token)) {
                return true;
            }
        }
        return false;
    }

    private void hold() {
        List<String> pile = new ArrayList<>(List.of("$", "TEXT"));
        Set<Integer> sizes = new HashSet<>();
        int depth = 0;
        int at = 0;
        while (!pile.isEmpty()) {
            String token = tokens.get(at);
            place = places.get(at);
            String name = pile.remove(pile.size() - 1);
            if (name.equals("OUT")) {
                depth--;
            } else if (token.equals("?")) {
                fault = 1;
                return;
            } else if (RULES.containsKey(name)) {
                String[] way = choose(name, token);
                if (way == null) {
                    fault = 2;
                    return;
                }
                for (int i = way.length - 1; i >= 0; i--) {
                    pile.add(way[i]);
                }
            } else {
                fault = wrong(name, token, depth, sizes);
                if (fault != 0) {
                    return;
                }
                if (name.equals("not") || name.equals("[") || name.equals("(") || name.equals("if")) {
                    depth++;
                }
                at++;
            }
        }
    }

    private static String[] choose(String name, String token) {
        String[] none = null;
        for (String[] way : RULES.get(name)) {
            if (way.length == 0) {
                none = way;
            } else if (begins(way[0], token)) {
                return way;
            }
        }
        return none;
    }

    private static int wrong(String name, String token, int depth, Set<Integer> sizes) {
        if (!begins(name, token)) {
            return 2;
        }
        if (name.equals("HEAT") && Integer.parseInt(token) > 9) {
            return 3;
        }
        if (name.equals("SIZE")) {
            int size = Integer.parseInt(token);
            if (size < 1 || size > 5 || !sizes.add(size)) {
                return 3;
            }
        }
        if (name.equals("$")) {
            for (int size = 1; size <= sizes.size(); size++) {
                if (!sizes.contains(size)) {
                    return 3;
                }
            }
        }
        return depth == 6 && Set.of("not", "[", "(", "if").contains(name) ? 4 : 0;
    }

    private void take() {
        heat = Integer.parseInt(tokens.get(2));
        List<String> line = new ArrayList<>();
        for (String token : tokens) {
            if (!token.equals(";")) {
                line.add(token);
                continue;
            }
            lines++;
            if (line.get(0).equals("cake")) {
                int size = Integer.parseInt(line.get(1));
                cakes.add(line.size() > 2 ? -size : size);
            } else if (line.get(0).equals("may")) {
                may = List.copyOf(line.subList(2, line.size()));
            } else if (line.get(0).equals("habit")) {
                habit = List.copyOf(line.subList(2, line.size()));
            }
            line.clear();
        }
        if (cakes.isEmpty()) {
            cakes.add(1);
        }
    }

    // ---- the laws, from their tokens: split at the last sign of the lowest rank that stands by itself

    boolean truth(List<String> law, int top, int under, int up, int heat, int many) {
        return truth(law, Map.of("top", top, "under", under, "up", up, "heat", heat, "many", many));
    }

    int sum(List<String> law, int top, int under, int up, int heat, int right) {
        return sum(law, Map.of("top", top, "under", under, "up", up, "heat", heat, "right", right));
    }

    private static int last(List<String> law, Set<String> signs) {
        int depth = 0;
        for (int i = law.size() - 1; i >= 0; i--) {
            String token = law.get(i);
            if (Set.of(")", "]", "end").contains(token)) {
                depth++;
            } else if (Set.of("(", "[", "if").contains(token)) {
                depth--;
            } else if (depth == 0 && signs.contains(token)) {
                return i;
            }
        }
        return -1;
    }

    private static boolean truth(List<String> law, Map<String, Integer> facts) {
        int n = law.size();
        int at = last(law, Set.of("or"));
        if (at >= 0) {
            return truth(law.subList(0, at), facts) | truth(law.subList(at + 1, n), facts);
        }
        at = last(law, Set.of("and"));
        if (at >= 0) {
            return truth(law.subList(0, at), facts) & truth(law.subList(at + 1, n), facts);
        }
        if (law.get(0).equals("not")) {
            return !truth(law.subList(1, n), facts);
        }
        if (law.get(0).equals("[")) {
            return truth(law.subList(1, n - 1), facts);
        }
        at = last(law, Set.of("=", "<", ">"));
        int a = sum(law.subList(0, at), facts);
        int b = sum(law.subList(at + 1, n), facts);
        return law.get(at).equals("=") ? a == b : law.get(at).equals("<") ? a < b : a > b;
    }

    private static int sum(List<String> law, Map<String, Integer> facts) {
        int n = law.size();
        int at = last(law, Set.of("+", "-"));
        if (at < 0) {
            at = last(law, Set.of("*"));
        }
        if (at >= 0) {
            long a = sum(law.subList(0, at), facts);
            long b = sum(law.subList(at + 1, n), facts);
            long v = law.get(at).equals("+") ? a + b : law.get(at).equals("-") ? a - b : a * b;
            return v > 1_000_000 ? 1_000_000 : v < -1_000_000 ? -1_000_000 : (int) v;
        }
        String first = law.get(0);
        if (first.equals("(")) {
            return sum(law.subList(1, n - 1), facts);
        }
        if (first.equals("if")) {
            return choice(law, facts);
        }
        return isNumber(first) ? Integer.parseInt(first) : facts.get(first);
    }

    private static int choice(List<String> law, Map<String, Integer> facts) {
        int depth = 0;
        int then = 0;
        int other = 0;
        for (int i = 0; i < law.size(); i++) {
            String token = law.get(i);
            depth += token.equals("if") ? 1 : token.equals("end") ? -1 : 0;
            then = depth == 1 && token.equals("then") ? i : then;
            other = depth == 1 && token.equals("else") ? i : other;
        }
        return truth(law.subList(1, then), facts)
                ? sum(law.subList(then + 1, other), facts) : sum(law.subList(other + 1, law.size() - 1), facts);
    }
}
