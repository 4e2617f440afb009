/** What the tests share: rows of answers that are due, and texts brought to the tape. */
final class Check {
    private int right;
    private int wrong;

    void due(String call, long got, long want) {
        if (got == want) {
            right++;
        } else {
            wrong++;
            System.out.println(call + " answered " + got + ", due is " + want);
        }
    }

    void holds(String what, boolean is) {
        due(what, is ? 1 : 0, 1);
    }

    /** Puts a text on the tape, which may hold something before, and leaves just the text there. */
    static void tape(EnumRules x, String text) {
        x.end(0);
        for (int at = 0; at < text.length(); at += 20) {
            x.feed(four(text, at), four(text, at + 4), four(text, at + 8), four(text, at + 12), four(text, at + 16));
        }
        x.end(text.length());
    }

    static int four(String text, int at) {
        int number = 0;
        for (int k = at; k < at + 4; k++) {
            number = number << 8 | (k < text.length() ? text.charAt(k) & 255 : ' ');
        }
        return number;
    }

    static int load(EnumRules x, String text) {
        tape(x, text);
        return x.load();
    }

    static EnumRules loaded(String text) {
        EnumRules x = new EnumRules();
        int many = load(x, text);
        if (many < 0) {
            System.out.println("fault " + x.fault(0) + " at " + x.fault(1) + " of " + text);
        }
        return x;
    }

    static String trace(EnumRules x) {
        StringBuilder rows = new StringBuilder();
        for (int k = 0; k < x.count(1); k++) {
            rows.append(k == 0 ? "" : " ").append(x.trace(k));
        }
        return rows.toString();
    }

    void traced(String what, EnumRules x, String want) {
        String got = trace(x);
        if (!got.equals(want)) {
            System.out.println(what + ": the trace is " + got + ", due is " + want);
        }
        holds(what, got.equals(want));
    }

    void finish(String name) {
        System.out.println(name + ": " + right + " answers as due, " + wrong + " not");
        if (wrong != 0) {
            System.exit(1);
        }
    }
}
