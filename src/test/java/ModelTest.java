import java.util.Random;

/** Random runs, always the same ones, on EnumRules and on the Model: every answer must be the same. */
public final class ModelTest {
    private static final int RUNS = 6000;
    private final Random random = new Random(20261116L);
    private final Check check = new Check();
    private final int[] faults = new int[7];
    private final int[] causes = new int[7];
    private int loads;

    public static void main(String[] args) {
        new ModelTest().all();
    }

    private void all() {
        for (int run = 0; run < RUNS; run++) {
            run(run);
        }
        for (int k = 1; k <= 6; k++) {
            check.holds("fault " + k + " was met often", faults[k] > 50);
            check.holds("cause " + k + " was met often", causes[k] > 50);
        }
        check.holds("texts without a fault were met often", loads > RUNS / 3);
        System.out.println("loads " + loads + ", faults " + java.util.Arrays.toString(faults)
            + ", causes " + java.util.Arrays.toString(causes));
        check.finish("ModelTest");
    }

    private void run(int run) {
        EnumRules x = new EnumRules();
        Model y = new Model();
        int texts = 1 + random.nextInt(3);
        for (int t = 0; t < texts; t++) {
            String text = text();
            bring(run, x, y, text);
            String before = "run " + run + " load of " + text;
            int answer = y.load();
            check.due(before, x.load(), answer);
            check.due(before + " fault(0)", x.fault(0), y.fault(0));
            check.due(before + " fault(1)", x.fault(1), y.fault(1));
            faults[y.fault(0)]++;
            loads += answer >= 0 ? 1 : 0;
            int calls = answer > 0 ? 5 + random.nextInt(60) : 3;
            for (int k = 0; k < calls; k++) {
                call(run, x, y, text);
            }
            same(run, x, y, text);
        }
    }

    private void bring(int run, EnumRules x, Model y, String text) {
        x.end(0);
        y.end(0);
        for (int at = 0; at < text.length(); at += 20) {
            int[] n = new int[5];
            for (int k = 0; k < 5; k++) {
                n[k] = Check.four(text, at + 4 * k);
            }
            check.due("run " + run + " feed", x.feed(n[0], n[1], n[2], n[3], n[4]), y.feed(n[0], n[1], n[2], n[3], n[4]));
        }
        int keep = Math.min(text.length(), 2000);
        check.due("run " + run + " end", x.end(keep), y.end(keep));
    }

    private void same(int run, EnumRules x, Model y, String text) {
        String of = "run " + run + " after " + text + ": ";
        for (int k = -1; k <= 5; k++) {
            check.due(of + "count " + k, x.count(k), y.count(k));
        }
        for (int k = -1; k <= y.count(1); k++) {
            check.due(of + "trace " + k, x.trace(k), y.trace(k));
        }
        for (int e = -1; e <= y.count(0); e++) {
            for (int k = -1; k <= 5; k++) {
                check.due(of + "told " + e + " " + k, x.told(e, k), y.told(e, k));
            }
        }
    }

    private int near(int size) {
        return random.nextInt(12) == 0 ? random.nextInt(Math.max(0, size) + 3) - 1 : random.nextInt(Math.max(1, size));
    }

    private void call(int run, EnumRules x, Model y, String text) {
        int e = near(y.count(0));
        int f = random.nextBoolean() ? e : near(y.count(0));
        int c = near(y.told(e, 0));
        int d = near(y.told(f, 0));
        int m = near(y.told(e, 1));
        int l = near(y.told(e, 2) + y.told(e, 3));
        int h = near(y.count(2));
        int i = near(y.count(2));
        int what = random.nextInt(13);
        String of = "run " + run + " of " + text + ": " + what + " " + e + " " + f + " " + c + " " + d + " " + m + " " + l + " " + h + " " + i;
        switch (what) {
            case 0: case 1: check.due(of, x.value(e, c), y.value(e, c)); break;
            case 2: case 3: check.due(of, x.call(e, c, m), y.call(e, c, m)); break;
            case 4: case 5: check.due(of, x.field(e, l), y.field(e, l)); break;
            case 6: check.due(of, x.compare(e, c, f, d), y.compare(e, c, f, d)); break;
            case 7: check.due(of, x.values(e), y.values(e)); break;
            case 8: check.due(of, x.swap(h, i), y.swap(h, i)); break;
            case 9: check.due(of, x.hand(h), y.hand(h)); break;
            case 10:
                bring(run, x, y, new String[] {"", "X", "Y", "Z", "Q", "X1", "X ", "enum"}[random.nextInt(8)]);
                check.due(of, x.named(e), y.named(e));
                check.due(of, x.count(3), y.count(3));
                break;
            case 11: check.due(of, x.hasBody(e, c), y.hasBody(e, c)); break;
            default:
                if (random.nextInt(60) == 0) {
                    check.due(of, x.clear(), y.clear());
                }
        }
        check.due(of + " cause", x.cause(), y.cause());
        check.due(of + " count(4)", x.count(4), y.count(4));
        causes[y.cause()]++;
    }

    // ---- texts

    private static final String[] CONSTANTS = {"X", "Y", "Z", "W", "X1", "X2", "X3", "X4", "X5", "X6", "X7", "X8", "X9"};
    private static final String[] MEMBERS = {"m", "n", "o", "m1", "m2", "m3", "m4", "m5", "m6"};
    private static final String[] FIELDS = {"f", "g", "k", "f1", "f2", "f3", "f4"};
    private int[] constants;
    private int nearlyRight;

    private String text() {
        nearlyRight = random.nextInt(2) == 0 ? 0 : 40;
        int enums = 1 + random.nextInt(random.nextInt(12) == 0 ? 9 : 4);
        constants = new int[enums];
        for (int e = 0; e < enums; e++) {
            constants[e] = random.nextInt(random.nextInt(25) == 0 ? 14 : 5);
        }
        StringBuilder text = new StringBuilder();
        for (int e = 0; e < enums; e++) {
            oneEnum(text, e);
        }
        if (random.nextInt(3) == 0) {
            mutate(text, 1 + random.nextInt(2));
        }
        if (random.nextInt(40) == 0) {
            text.setLength(random.nextInt(text.length()));
        }
        return text.toString();
    }

    /** Seldom true, and in half of the texts never: so some texts have one thing wrong, most none. */
    private boolean wrong() {
        return nearlyRight != 0 && random.nextInt(nearlyRight) == 0;
    }

    private void mutate(StringBuilder text, int many) {
        String bytes = "{}(),;=+-*/. \n#aX19m\t[\u00e9";
        for (int k = 0; k < many && text.length() > 0; k++) {
            int at = random.nextInt(text.length());
            char c = bytes.charAt(random.nextInt(bytes.length()));
            switch (random.nextInt(4)) {
                case 0: text.deleteCharAt(at); break;
                case 1: text.insert(at, c); break;
                case 2: text.setCharAt(at, c); break;
                default: text.insert(at, text.substring(at, Math.min(text.length(), at + 1 + random.nextInt(8))));
            }
        }
    }

    private String blank() {
        int kind = random.nextInt(30);
        return kind == 0 ? " " : kind == 1 ? "\n " : "";
    }

    private void oneEnum(StringBuilder text, int e) {
        int members = random.nextInt(random.nextInt(25) == 0 ? 10 : 3);
        int fields = random.nextInt(random.nextInt(25) == 0 ? 8 : 4);
        boolean[] isAbstract = new boolean[members];
        boolean[] isConst = new boolean[fields];
        for (int m = 0; m < members; m++) {
            isAbstract[m] = random.nextInt(3) == 0;
        }
        for (int f = 0; f < fields; f++) {
            isConst[f] = random.nextBoolean();
        }
        text.append(blank()).append("enum ").append((char) ('A' + (wrong() ? 0 : e))).append(blank()).append('{').append(blank());
        for (int c = 0; c < constants[e]; c++) {
            text.append(c == 0 ? "" : ",").append(blank()).append(CONSTANTS[wrong() ? 0 : Math.min(c, 12)]);
            constant(text, members, isAbstract, isConst);
        }
        if (members + fields > 0 || random.nextBoolean()) {
            text.append(';').append(blank());
            told(text, members, isAbstract, isConst);
        }
        text.append('}').append(blank());
    }

    private void constant(StringBuilder text, int members, boolean[] isAbstract, boolean[] isConst) {
        if (random.nextBoolean()) {
            text.append('(').append(number()).append(')');
        }
        boolean needs = random.nextInt(4) == 0;
        for (boolean is : isAbstract) {
            needs |= is;
        }
        if (!needs) {
            return;
        }
        text.append('{');
        for (int m = members - 1; m >= 0; m--) {
            if (isAbstract[m] && !wrong() || !isAbstract[m] && random.nextInt(3) == 0) {
                text.append(wrong() ? "q" : MEMBERS[wrong() ? 0 : m]).append('=');
                exp(text, 'm', isConst);
                text.append(';').append(blank());
            }
        }
        text.append('}');
    }

    private void told(StringBuilder text, int members, boolean[] isAbstract, boolean[] isConst) {
        int m = 0;
        int f = 0;
        int makerAt = random.nextInt(members + isConst.length + 1);
        boolean maker = random.nextInt(3) != 0;
        for (int k = 0; k <= members + isConst.length; k++) {
            if (maker && (k == makerAt || wrong())) {
                text.append("maker=");
                exp(text, 'k', isConst);
                text.append(';');
            }
            boolean takesMember = f == isConst.length || m < members && random.nextBoolean();
            if (m == members && f == isConst.length) {
                continue;
            }
            if (takesMember) {
                text.append(isAbstract[m] ? "abstract " : "def ").append(wrong() ? "X" : MEMBERS[Math.min(m, 8)]);
                if (!isAbstract[m]) {
                    text.append('=');
                    exp(text, 'm', isConst);
                }
                m++;
            } else {
                text.append(isConst[f] ? "const " : "field ").append(wrong() ? "f" : FIELDS[Math.min(f, 6)]).append('=');
                if (isConst[f]) {
                    text.append(number());
                } else {
                    exp(text, 'f', isConst);
                }
                f++;
            }
            text.append(';').append(blank());
        }
    }

    private String number() {
        int kind = random.nextInt(10);
        return kind == 0 ? "999999999" : kind == 1 ? "0" : kind == 2 ? "00" + random.nextInt(99) : "" + random.nextInt(9);
    }

    private void exp(StringBuilder text, char where, boolean[] isConst) {
        int signs = random.nextInt(50) == 0 ? 18 + random.nextInt(5) : random.nextInt(4);
        int open = 0;
        int deepest = random.nextInt(40) == 0 ? 10 : 3;
        for (int k = 0; k <= signs; k++) {
            for (int d = open; d < deepest && random.nextInt(deepest == 10 ? 2 : 5) == 0; d++) {
                boolean minus = random.nextBoolean();
                text.append(minus ? '-' : '(');
                open += minus ? 0 : 1;
            }
            one(text, where, isConst);
            while (open > 0 && random.nextInt(3) == 0) {
                text.append(')');
                open--;
            }
            if (k < signs) {
                text.append(blank()).append("+-*+-*/".charAt(random.nextInt(7)));
            }
        }
        for (; open > 0; open--) {
            text.append(')');
        }
    }

    private void one(StringBuilder text, char where, boolean[] isConst) {
        int kind = random.nextInt(8);
        if (wrong()) {
            text.append(new String[] {"arg", "val", "place", "q", "A.q", "H.X", "f", "maker"}[kind]);
        } else if (kind < 3) {
            int e = random.nextInt(constants.length);
            if (constants[e] == 0) {
                text.append(number());
            } else {
                text.append((char) ('A' + e)).append('.').append(CONSTANTS[Math.min(12, random.nextInt(constants[e]))]);
            }
        } else if (kind < 5 && isConst.length > 0) {
            int f = random.nextInt(isConst.length);
            boolean tooEarly = where == 'k' && !isConst[f] && (nearlyRight == 0 || random.nextInt(4) != 0);
            text.append(tooEarly ? number() : FIELDS[Math.min(6, f)]);
        } else if (kind < 7 && where != 'f') {
            text.append(kind == 5 ? "place" : where == 'k' ? "arg" : "val");
        } else {
            text.append(number());
        }
    }
}
