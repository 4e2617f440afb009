import java.util.ArrayList;
import java.util.Arrays;
import java.util.HashSet;
import java.util.List;
import java.util.Set;
import java.util.function.Supplier;
import java.util.regex.Matcher;
import java.util.regex.Pattern;

/** The document once more, by trees, exceptions and the library: what EnumRules is held against. */
final class Model {
    static final int UNKNOWN = -1000001, OUTSIDE = -1000002, ROOM = -1000004, NONE = -1000009;
    private static final Set<String> WORDS = new HashSet<>(Arrays.asList(
        "enum", "abstract", "def", "field", "const", "maker", "arg", "val", "place"));
    private static final Pattern TOKEN = Pattern.compile("[a-zA-Z][a-zA-Z0-9]*|[0-9]{1,9}|[{}(),;=+*/.\\-]");

    @SuppressWarnings("serial")
    private static final class Failure extends RuntimeException {
        final int cause;
        Failure(int cause) { super(null, null, false, false); this.cause = cause; }
    }

    @SuppressWarnings("serial")
    private static final class TextFault extends Exception {
        final int place;
        TextFault(int place) { super(null, null, false, false); this.place = place; }
    }

    /** kind: n number, f field, c constant, a arg, v val, p place, ~ minus, + - * / */
    private static final class Node {
        char kind; int number; String name, second; int place; Node left, right;
        Node(char kind, int place) { this.kind = kind; this.place = place; }
    }

    private static final class Told {
        String name; int place; Node exp; int number; boolean isAbstract, isConst, made, body, set; int val;
        List<Told> gives = new ArrayList<>();
        Told(String name, int place) { this.name = name; this.place = place; }
    }

    private static final class Enum {
        String name; int place; int state;
        List<Told> constants = new ArrayList<>(), members = new ArrayList<>(), fields = new ArrayList<>();
        List<Told> makers = new ArrayList<>();
    }

    private StringBuilder tape = new StringBuilder();
    private List<Enum> enums = new ArrayList<>();
    private List<Integer> trace = new ArrayList<>();
    private List<Told> hand = new ArrayList<>();
    private int fault, faultPlace, cause, failed;

    int feed(int a, int b, int c, int d, int e) {
        if (tape.length() + 20 > 2000) return ROOM;
        for (int n : new int[] {a, b, c, d, e}) {
            tape.append((char) (n >>> 24)).append((char) (n >>> 16 & 255)).append((char) (n >>> 8 & 255)).append((char) (n & 255));
        }
        return tape.length();
    }

    int end(int n) {
        if (n < 0 || n > tape.length()) return OUTSIDE;
        tape.setLength(n);
        return n;
    }

    // ---- text

    private String text;
    private int at;
    private String token;
    private int signs;
    private List<Enum> read;

    private void next() {
        while (at < text.length() && (text.charAt(at) == ' ' || text.charAt(at) == '\n')) at++;
        token = null;
        if (at == text.length()) { token = ""; return; }
        Matcher m = TOKEN.matcher(text);
        m.region(at, text.length());
        if (m.lookingAt() && !(Character.isLetter(m.group().charAt(0)) && m.group().length() > 12)) token = m.group();
    }

    private boolean is(String wanted) { return wanted.equals(token); }

    private boolean isName() { return token != null && token.matches("[a-zA-Z].*") && !WORDS.contains(token); }

    private boolean isNumber() { return token != null && token.matches("[0-9]+"); }

    private String go() { String was = token; at += token.length(); next(); return was; }

    private void must(boolean is) throws TextFault { if (!is) throw new TextFault(at); }

    private void take(String wanted) throws TextFault { must(is(wanted)); go(); }

    private Told name(boolean room) throws TextFault {
        must(isName() && room);
        int place = at;
        return new Told(go(), place);
    }

    private int number() throws TextFault { must(isNumber()); return Integer.parseInt(go()); }

    private void text() throws TextFault {
        next();
        while (!is("")) {
            take("enum");
            Told name = name(read.size() < 8);
            Enum e = new Enum();
            e.name = name.name;
            e.place = name.place;
            read.add(e);
            take("{");
            if (isName()) {
                constant(e);
                while (is(",")) { go(); constant(e); }
            }
            if (is(";")) {
                go();
                while (Arrays.asList("abstract", "def", "field", "const", "maker").contains(token)) member(e);
            }
            take("}");
        }
    }

    private void constant(Enum e) throws TextFault {
        Told c = name(e.constants.size() < 12);
        e.constants.add(c);
        if (is("(")) { go(); c.number = number(); take(")"); }
        if (is("{")) {
            go();
            c.body = true;
            while (isName()) {
                Told give = name(true);
                c.gives.add(give);
                take("=");
                give.exp = whole();
            }
            take("}");
        }
    }

    private void member(Enum e) throws TextFault {
        int place = at;
        String word = go();
        if (word.equals("maker")) {
            Told maker = new Told(word, place);
            e.makers.add(maker);
            take("=");
            maker.exp = whole();
            return;
        }
        boolean isMember = word.equals("abstract") || word.equals("def");
        Told told = name(isMember ? e.members.size() < 8 : e.fields.size() < 6);
        (isMember ? e.members : e.fields).add(told);
        if (word.equals("abstract")) { told.isAbstract = true; take(";"); return; }
        take("=");
        if (word.equals("const")) { told.isConst = true; told.val = number(); take(";"); return; }
        told.exp = whole();
    }

    private Node whole() throws TextFault {
        signs = 0;
        Node exp = exp(0);
        take(";");
        return exp;
    }

    private Node join(Node left) throws TextFault {
        must(signs < 20);
        signs++;
        Node n = new Node(token.charAt(0), at);
        n.left = left;
        go();
        return n;
    }

    private Node exp(int depth) throws TextFault {
        Node n = part(depth);
        while (is("+") || is("-")) { n = join(n); n.right = part(depth); }
        return n;
    }

    private Node part(int depth) throws TextFault {
        Node n = one(depth);
        while (is("*") || is("/")) { n = join(n); n.right = one(depth); }
        return n;
    }

    private Node one(int depth) throws TextFault {
        int place = at;
        if (is("(") || is("-")) {
            must(depth < 8);
            if (go().equals("-")) {
                Node n = new Node('~', place);
                n.left = one(depth + 1);
                return n;
            }
            Node n = exp(depth + 1);
            take(")");
            return n;
        }
        if (isNumber()) { Node n = new Node('n', place); n.number = number(); return n; }
        if (isName()) {
            Node n = new Node('f', place);
            n.name = go();
            if (is(".")) { go(); n.kind = 'c'; n.second = name(true).name; }
            return n;
        }
        must(is("arg") || is("val") || is("place"));
        return new Node(go().charAt(0), place);
    }

    // ---- the other faults

    private void note(int number, int place) {
        if (fault == 0 || place < faultPlace || place == faultPlace && number < fault) { fault = number; faultPlace = place; }
    }

    private static Told find(List<Told> all, String name) {
        for (Told t : all) if (t.name.equals(name)) return t;
        return null;
    }

    private static Enum find(List<Enum> all, String name, int ignored) {
        for (Enum e : all) if (e.name.equals(name)) return e;
        return null;
    }

    private void twice(List<Told> all) {
        for (Told t : all) for (Told u : all) if (u.place < t.place && u.name.equals(t.name)) note(2, t.place);
    }

    private void look(Enum e) {
        for (Enum f : read) if (f.place < e.place && f.name.equals(e.name)) note(2, e.place);
        List<Told> all = new ArrayList<>(e.constants);
        all.addAll(e.members);
        all.addAll(e.fields);
        twice(all);
        twice(e.makers);
        for (Told c : e.constants) {
            twice(c.gives);
            for (Told g : c.gives) {
                if (find(e.members, g.name) == null) note(3, g.place);
                look(e, g.exp, 'm');
            }
            for (Told m : e.members) if (m.isAbstract && find(c.gives, m.name) == null) note(4, c.place);
        }
        for (Told m : e.members) look(e, m.exp, 'm');
        for (Told f : e.fields) look(e, f.exp, 'f');
        for (Told m : e.makers) look(e, m.exp, 'k');
    }

    private void look(Enum e, Node n, char where) {
        if (n == null) return;
        look(e, n.left, where);
        look(e, n.right, where);
        if (n.kind == 'f') {
            Told f = find(e.fields, n.name);
            if (f == null) note(6, n.place);
            else if (where == 'k' && !f.isConst) note(5, n.place);
        } else if (n.kind == 'c') {
            Enum of = find(read, n.name, 0);
            if (of == null || find(of.constants, n.second) == null) note(6, n.place);
        } else if (n.kind == 'a' && where != 'k' || n.kind == 'v' && where != 'm' || n.kind == 'p' && where == 'f') {
            note(6, n.place);
        }
    }

    int load() {
        text = tape.toString();
        tape.setLength(0);
        at = 0;
        read = new ArrayList<>();
        fault = 0;
        try {
            text();
            for (Enum e : read) look(e);
        } catch (TextFault t) {
            fault = 1;
            faultPlace = t.place;
        }
        if (fault != 0) return -10 - fault;
        enums = read;
        trace.clear();
        hand = new ArrayList<>();
        return enums.size();
    }

    // ---- starts

    private void tell(int row) { if (trace.size() < 200) trace.add(row); }

    private void want(Enum e) {
        int number = 1000 * enums.indexOf(e);
        if (e.state == 2) throw new Failure(6);
        if (e.state != 0) return;
        e.state = 3;
        tell(number);
        try {
            for (int c = 0; c < e.constants.size(); c++) {
                Told k = e.constants.get(c);
                k.val = e.makers.isEmpty() ? 0 : work(e, k, e.makers.get(0).exp);
                k.made = true;
                tell(number + 1 + c);
            }
            for (Told f : e.fields) if (!f.isConst) f.val = work(e, null, f.exp);
            e.state = 1;
            tell(number + 100);
        } catch (Failure f) {
            e.state = 2;
            tell(number + 200);
            throw f;
        }
    }

    private int work(Enum e, Told c, Node n) {
        switch (n.kind) {
            case 'n': return n.number;
            case 'f': return find(e.fields, n.name).val;
            case 'a': return c.number;
            case 'v': return c.val;
            case 'p': return e.constants.indexOf(c);
            case '~': return -work(e, c, n.left);
            case 'c':
                Enum of = find(enums, n.name, 0);
                want(of);
                Told k = find(of.constants, n.second);
                if (!k.made) throw new Failure(1);
                return k.val;
            default:
        }
        int a = work(e, c, n.left), b = work(e, c, n.right);
        if (n.kind == '+') return a + b;
        if (n.kind == '-') return a - b;
        if (n.kind == '*') return a * b;
        if (b == 0) throw new Failure(2);
        return (int) ((long) a / b);
    }

    private int mayFail(Supplier<Integer> call) {
        cause = 0;
        try {
            return call.get();
        } catch (Failure f) {
            cause = f.cause;
            failed++;
            return 0;
        }
    }

    private static <T> boolean in(List<T> row, int i) { return i >= 0 && i < row.size(); }

    private boolean constant(int e, int c) { return in(enums, e) && in(enums.get(e).constants, c); }

    int fault(int what) { return what == 0 ? fault : what == 1 ? fault == 0 ? NONE : faultPlace : OUTSIDE; }

    int cause() { return cause; }

    int told(int e, int what) {
        if (!in(enums, e)) return UNKNOWN;
        Enum it = enums.get(e);
        int consts = (int) it.fields.stream().filter(f -> f.isConst).count();
        int[] answers = {it.constants.size(), it.members.size(), it.fields.size() - consts, consts, it.state};
        return what < 0 || what > 4 ? OUTSIDE : answers[what];
    }

    int hasBody(int e, int c) { return !constant(e, c) ? UNKNOWN : enums.get(e).constants.get(c).body ? 1 : 0; }

    int value(int e, int c) {
        if (!constant(e, c)) return UNKNOWN;
        return mayFail(() -> { want(enums.get(e)); return enums.get(e).constants.get(c).val; });
    }

    int call(int e, int c, int m) {
        if (!constant(e, c) || !in(enums.get(e).members, m)) return UNKNOWN;
        Enum it = enums.get(e);
        return mayFail(() -> {
            want(it);
            Told give = find(it.constants.get(c).gives, it.members.get(m).name);
            return work(it, it.constants.get(c), give != null ? give.exp : it.members.get(m).exp);
        });
    }

    int field(int e, int f) {
        if (!in(enums, e) || !in(enums.get(e).fields, f)) return UNKNOWN;
        Told it = enums.get(e).fields.get(f);
        return mayFail(() -> { if (!it.isConst) want(enums.get(e)); return it.val; });
    }

    int compare(int e, int c, int f, int d) {
        if (!constant(e, c) || !constant(f, d)) return UNKNOWN;
        return mayFail(() -> {
            want(enums.get(e));
            want(enums.get(f));
            if (e != f) throw new Failure(5);
            return 2 + Integer.compare(c, d);
        });
    }

    int values(int e) {
        if (!in(enums, e)) return UNKNOWN;
        return mayFail(() -> { want(enums.get(e)); hand = new ArrayList<>(enums.get(e).constants); return hand.size(); });
    }

    int swap(int i, int j) {
        if (!in(hand, i) || !in(hand, j)) return OUTSIDE;
        java.util.Collections.swap(hand, i, j);
        return 1;
    }

    int hand(int i) {
        return mayFail(() -> { if (!in(hand, i)) throw new Failure(4); return hand.get(i).val; });
    }

    int named(int e) {
        if (!in(enums, e)) return UNKNOWN;
        String name = tape.toString();
        tape.setLength(0);
        return mayFail(() -> {
            want(enums.get(e));
            if (name.isEmpty()) throw new Failure(1);
            Told c = find(enums.get(e).constants, name);
            if (c == null) throw new Failure(3);
            return enums.get(e).constants.indexOf(c);
        });
    }

    int trace(int k) { return in(trace, k) ? trace.get(k) : NONE; }

    int count(int what) {
        int[] answers = {enums.size(), trace.size(), hand.size(), tape.length(), failed};
        return what < 0 || what > 4 ? OUTSIDE : answers[what];
    }

    int clear() {
        int had = enums.size();
        tape.setLength(0);
        enums = new ArrayList<>();
        trace.clear();
        hand = new ArrayList<>();
        fault = 0;
        cause = 0;
        failed = 0;
        return had;
    }
}
