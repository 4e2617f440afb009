import java.util.ArrayList;
import java.util.List;
import java.util.Random;

/**
 * FAULT 1 by the grammar that stands in the document: what no text goes on with by its rules, EnumRules must find at that
 * very place, and nowhere else. The limits (how deep, how many) have tests of their own and are not reached here.
 */
public final class GrammarTest {
    private static final int WHOLE_LENGTH = 11, WALKS = 4000, WALK_LENGTH = 60, TRIES = 1500;
    private static final String[] NAMES = {"a", "Z", "E", "X1", "enums", "Enum", "ar", "vals", "places", "abcdefghijkl", "A9z0"};
    private static final String[] NUMBERS = {"0", "7", "00", "123456789", "999999999"};
    private final Random random = new Random(20261116L);
    private final Check check = new Check();
    private final Grammar grammar = new Grammar(check.document());
    private final List<String> kinds = new ArrayList<>(grammar.tokens());
    private int rows;
    private int stopped;

    public static void main(String[] args) {
        new GrammarTest().all();
    }

    private void all() {
        check.says("FAULT 1: at the first byte or token with which no text goes on");
        theRules();
        everyRow(grammar.begin(), new ArrayList<>());
        check.holds(rows + " short rows were looked at", rows > 20000);
        check.holds(stopped + " of them stop", stopped > rows / 2);
        for (int k = 0; k < WALKS; k++) {
            walk();
        }
        check.finish("GrammarTest");
    }

    private void theRules() {
        for (String name : new String[] {"text", "enum", "con", "give", "member", "exp", "part", "one"}) {
            check.holds("there is a rule for " + name, grammar.names().contains(name));
        }
        check.same("the tokens", kinds.toString(), "['(', ')', '*', '+', ',', '-', '.', '/', ';', '=', "
            + "'abstract', 'arg', 'const', 'def', 'enum', 'field', 'maker', 'place', 'val', '{', '}', NAME, NUMBER]");
    }

    /** Each row that a text may begin with, up to a length, and each token behind each such row. */
    private void everyRow(Grammar.Reading reading, List<String> row) {
        look(row, grammar.mayEnd(reading) ? Check.NO_FAULT : row.size());
        if (row.size() >= WHOLE_LENGTH) {
            return;
        }
        for (String kind : kinds) {
            Grammar.Reading next = grammar.next(reading, kind);
            row.add(kind);
            if (next == null) {
                stopped++;
                look(row, row.size() - 1);
            } else {
                everyRow(next, row);
            }
            row.remove(row.size() - 1);
        }
    }

    /** A long row that goes on by the rules, then any token, and some more that no longer count. */
    private void walk() {
        List<String> row = new ArrayList<>();
        Grammar.Reading reading = grammar.begin();
        int length = 1 + random.nextInt(WALK_LENGTH);
        for (int tries = 0; tries < TRIES && row.size() < length; tries++) {
            String kind = kinds.get(random.nextInt(kinds.size()));
            Grammar.Reading next = grammar.next(reading, kind);
            if (next != null && isInLimits(row, kind)) {
                reading = next;
                row.add(kind);
            }
        }
        look(row, grammar.mayEnd(reading) ? Check.NO_FAULT : row.size());
        for (String kind : kinds) {
            if (grammar.next(reading, kind) == null) {
                List<String> longer = new ArrayList<>(row);
                longer.add(kind);
                for (int k = random.nextInt(4); k > 0; k--) {
                    longer.add(kinds.get(random.nextInt(kinds.size())));
                }
                look(longer, row.size());
            }
        }
    }

    /** Less than the limits allow, so that the rules alone decide. */
    private static boolean isInLimits(List<String> row, String kind) {
        int from = row.lastIndexOf("'='");
        switch (kind) {
            case "'('": case "'-'": return many(row, from, "'('", "'-'") < 8;
            case "'+'": case "'*'": case "'/'": return many(row, from, "'+'", "'*'", "'/'") < 12;
            case "'enum'": return many(row, -1, kind) < 8;
            case "','": return many(row, row.lastIndexOf("'enum'"), kind) < 11;
            case "'abstract'": case "'def'": return many(row, row.lastIndexOf("'enum'"), "'abstract'", "'def'") < 8;
            case "'field'": case "'const'": return many(row, row.lastIndexOf("'enum'"), "'field'", "'const'") < 6;
            default: return true;
        }
    }

    private static int many(List<String> row, int behind, String... wanted) {
        int many = 0;
        for (int k = behind + 1; k < row.size(); k++) {
            many += List.of(wanted).contains(row.get(k)) ? 1 : 0;
        }
        return many;
    }

    /** The row as a text; stop is the token at which it stops, its size if it ends too soon. */
    private void look(List<String> row, int stop) {
        rows++;
        StringBuilder text = new StringBuilder(blanks(false));
        int place = Check.NO_FAULT;
        for (int k = 0; k < row.size(); k++) {
            String token = spelled(row.get(k));
            text.append(blanks(k > 0 && runTogether(text.charAt(text.length() - 1), token.charAt(0))));
            if (k == stop) {
                place = text.length();
            }
            text.append(token);
        }
        text.append(blanks(false));
        if (stop == row.size()) {
            place = text.length();
        }
        if (text.length() <= 2000) {
            textFault(text.toString(), place);
        }
    }

    /** A text that goes on to its end may still have one of the other faults. */
    private void textFault(String text, int place) {
        EnumRules x = new EnumRules();
        int answer = Check.load(x, text);
        if (place == Check.NO_FAULT) {
            check.holds("load of " + text + " is without fault 1, not at " + x.fault(1), answer != -11 && x.fault(0) != 1);
        } else {
            check.due("load of " + text, answer, -11);
            check.due("fault(1) of " + text, x.fault(1), place);
        }
    }

    private static boolean runTogether(char before, char next) {
        return Character.isLetterOrDigit(before) && Character.isLetterOrDigit(next);
    }

    private String spelled(String kind) {
        switch (kind) {
            case "NAME": return NAMES[random.nextInt(NAMES.length)];
            case "NUMBER": return NUMBERS[random.nextInt(NUMBERS.length)];
            default: return kind.substring(1, kind.length() - 1);
        }
    }

    private String blanks(boolean needed) {
        int kind = random.nextInt(12);
        return kind == 0 ? "\n" : kind == 1 ? "  " : kind == 2 || needed ? " " : "";
    }
}
