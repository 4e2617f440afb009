import java.util.ArrayList;
import java.util.Collections;
import java.util.LinkedHashMap;
import java.util.LinkedHashSet;
import java.util.List;
import java.util.Map;
import java.util.Set;
import java.util.TreeSet;
import java.util.regex.Matcher;
import java.util.regex.Pattern;

/**
 * The rules of the document's own grammar, and how far a row of tokens goes by them (Earley's way, which knows nothing of
 * what a reader of such texts would look at first). A literal is held with its quotes; NAME and NUMBER are tokens, too.
 */
final class Grammar {
    private static final Pattern PIECE = Pattern.compile("'[^']+'|[A-Za-z]+|[\\[\\]()*|]");
    private static final Pattern RULE = Pattern.compile("(?<=^| )([a-z]+) = ");
    private final Map<String, List<List<String>>> rules = new LinkedHashMap<>();
    private final Set<String> tokens = new TreeSet<>();
    private List<String> pieces;
    private int at;

    /** From the rule for text on, up to the prose about how deep an exp may be. */
    Grammar(String document) {
        String told = document.substring(document.indexOf("text = "), document.indexOf(" ; ( and - in each other"));
        Matcher rule = RULE.matcher(told);
        String name = null;
        int from = 0;
        while (rule.find()) {
            if (name != null) {
                addRule(name, told.substring(from, rule.start()));
            }
            name = rule.group(1);
            from = rule.end();
        }
        addRule(name, told.substring(from));
        for (List<List<String>> ways : rules.values()) {
            for (List<String> way : ways) {
                for (String piece : way) {
                    if (!rules.containsKey(piece)) {
                        tokens.add(piece);
                    }
                }
            }
        }
    }

    Set<String> tokens() {
        return tokens;
    }

    Set<String> names() {
        return Collections.unmodifiableSet(rules.keySet());
    }

    // ---- the rules

    private void addRule(String name, String told) {
        pieces = new ArrayList<>();
        Matcher piece = PIECE.matcher(told);
        while (piece.find()) {
            pieces.add(piece.group());
        }
        at = 0;
        rules.put(name, new ArrayList<>());
        rules.get(name).addAll(ways());
    }

    private boolean is(String piece) {
        return at < pieces.size() && pieces.get(at).equals(piece);
    }

    private List<List<String>> ways() {
        List<List<String>> ways = new ArrayList<>();
        ways.add(way());
        while (is("|")) {
            at++;
            ways.add(way());
        }
        return ways;
    }

    private List<String> way() {
        List<String> way = new ArrayList<>();
        while (at < pieces.size() && !is("|") && !is(")") && !is("]")) {
            String piece = piece();
            if (is("*")) {
                at++;
                piece = helper(List.of(List.of(), List.of(piece, helperName(1))));
            }
            way.add(piece);
        }
        return way;
    }

    private String piece() {
        String piece = pieces.get(at);
        at++;
        if (!piece.equals("[") && !piece.equals("(")) {
            return piece;
        }
        List<List<String>> ways = new ArrayList<>(ways());
        if (piece.equals("[")) {
            ways.add(List.of());
        }
        at++;
        return helper(ways);
    }

    private String helperName(int ahead) {
        return "#" + (rules.size() + ahead - 1);
    }

    private String helper(List<List<String>> ways) {
        String name = helperName(1);
        rules.put(name, ways);
        return name;
    }

    // ---- how far tokens go

    /** A rule's way with a point in it, and the set where it began. */
    private record Item(String rule, int way, int point, int from) { }

    /** What may be there after some tokens; the sets are never changed once they are whole. */
    static final class Reading {
        private final List<Set<Item>> sets;

        private Reading(List<Set<Item>> sets) {
            this.sets = sets;
        }

        private Set<Item> last() {
            return sets.get(sets.size() - 1);
        }
    }

    Reading begin() {
        List<Set<Item>> sets = new ArrayList<>();
        sets.add(new LinkedHashSet<>());
        for (int way = 0; way < rules.get("text").size(); way++) {
            sets.get(0).add(new Item("text", way, 0, 0));
        }
        close(sets);
        return new Reading(sets);
    }

    /** Null: no text goes on with this token. */
    Reading next(Reading before, String token) {
        Set<Item> moved = new LinkedHashSet<>();
        for (Item item : before.last()) {
            if (token.equals(behindPoint(item))) {
                moved.add(new Item(item.rule, item.way, item.point + 1, item.from));
            }
        }
        if (moved.isEmpty()) {
            return null;
        }
        List<Set<Item>> sets = new ArrayList<>(before.sets);
        sets.add(moved);
        close(sets);
        return new Reading(sets);
    }

    boolean mayEnd(Reading reading) {
        for (Item item : reading.last()) {
            if (item.rule.equals("text") && item.from == 0 && behindPoint(item) == null) {
                return true;
            }
        }
        return false;
    }

    private String behindPoint(Item item) {
        List<String> way = rules.get(item.rule).get(item.way);
        return item.point < way.size() ? way.get(item.point) : null;
    }

    private void close(List<Set<Item>> sets) {
        Set<Item> last = sets.get(sets.size() - 1);
        int before;
        do {
            before = last.size();
            for (Item item : new ArrayList<>(last)) {
                String wanted = behindPoint(item);
                if (wanted == null) {
                    complete(sets, item);
                } else if (rules.containsKey(wanted)) {
                    for (int way = 0; way < rules.get(wanted).size(); way++) {
                        last.add(new Item(wanted, way, 0, sets.size() - 1));
                    }
                }
            }
        } while (last.size() > before);
    }

    private void complete(List<Set<Item>> sets, Item done) {
        for (Item item : new ArrayList<>(sets.get(done.from))) {
            if (done.rule.equals(behindPoint(item))) {
                sets.get(sets.size() - 1).add(new Item(item.rule, item.way, item.point + 1, item.from));
            }
        }
    }
}
