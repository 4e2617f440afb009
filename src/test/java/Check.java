import java.io.IOException;
import java.nio.file.Files;
import java.nio.file.Path;

/** What the tests share: rows of answers that are due, and texts brought to the tape. */
final class Check {
    /** No place of a text. */
    static final int NO_FAULT = -1;
    private static final Path DOCUMENT = Path.of("../shared/DOC.md");
    private String document;
    private String sentence = "";
    private int right;
    private int wrong;

    /** The answers that follow are due by these words of the document; blanks and line ends count as one blank. */
    void says(String words) {
        sentence = "";
        holds("the document says: " + words, document().contains(words));
        sentence = "\"" + words + "\": ";
    }

    String document() {
        if (document == null) {
            try {
                document = Files.readString(DOCUMENT).replaceAll("\\s+", " ");
            } catch (IOException e) {
                throw new IllegalStateException("no document at " + DOCUMENT, e);
            }
        }
        return document;
    }

    void due(String call, long got, long want) {
        if (got == want) {
            right++;
        } else {
            wrong++;
            System.out.println(sentence + call + " answered " + got + ", due is " + want);
        }
    }

    void holds(String what, boolean is) {
        due(what, is ? 1 : 0, 1);
    }

    void same(String what, String got, String want) {
        if (!got.equals(want)) {
            System.out.println(sentence + what + " is " + got + ", due is " + want);
        }
        holds(what, got.equals(want));
    }

    /** A call that fails answers 0, tells its cause, and is counted. */
    void fails(String call, EnumRules x, int failedBefore, int answer, int cause) {
        due(call, answer, 0);
        due("cause() of " + call, x.cause(), cause);
        due("count(4) after " + call, x.count(4), failedBefore + 1);
    }

    /** In the text, a bar stands ahead of the place of the fault; without a bar there is none. */
    void fault(int fault, String marked) {
        String shown = marked.length() > 90 ? marked.substring(0, 90) + ".." : marked;
        faultAt(fault, marked.indexOf('|'), marked.replace("|", ""), shown);
    }

    void faultAt(int fault, int place, String text, String shown) {
        EnumRules x = new EnumRules();
        int answer = load(x, text);
        if (fault == 0) {
            holds("load of " + shown + " is without a fault, not " + x.fault(0) + " at " + x.fault(1), answer >= 0);
        } else {
            due("load of " + shown, answer, -10 - fault);
        }
        due("fault(0) of " + shown, x.fault(0), fault);
        due("fault(1) of " + shown, x.fault(1), fault == 0 ? EnumRules.NONE : place);
        due("count(3) after load of " + shown, x.count(3), 0);
    }

    /** Puts a text on the tape, which may hold something before, and leaves just the text there. */
    static void tape(EnumRules x, String text) {
        x.end(0);
        for (int at = 0; at < text.length(); at += 20) {
            feed(x, text, at);
        }
        x.end(text.length());
    }

    static int feed(EnumRules x, String text, int at) {
        return x.feed(four(text, at), four(text, at + 4), four(text, at + 8), four(text, at + 12), four(text, at + 16));
    }

    static int four(String text, int at) {
        int number = 0;
        for (int k = at; k < at + 4; k++) {
            number = number << 8 | (k < text.length() ? text.charAt(k) & 255 : ' ');
        }
        return number;
    }

    /** The part again and again; # in it is the number of the time, from 0 on. */
    static String times(String part, int many) {
        StringBuilder all = new StringBuilder();
        for (int k = 0; k < many; k++) {
            all.append(part.replace("#", "" + k));
        }
        return all.toString();
    }

    static int load(EnumRules x, String text) {
        tape(x, text);
        return x.load();
    }

    static int named(EnumRules x, int e, String name) {
        tape(x, name);
        return x.named(e);
    }

    static EnumRules loaded(String text) {
        EnumRules x = new EnumRules();
        int many = load(x, text);
        if (many < 0) {
            System.out.println("fault " + x.fault(0) + " at " + x.fault(1) + " of " + text);
        }
        return x;
    }

    static String trace(EnumRules x) {
        StringBuilder rows = new StringBuilder();
        for (int k = 0; k < x.count(1); k++) {
            rows.append(k == 0 ? "" : " ").append(x.trace(k));
        }
        return rows.toString();
    }

    void traced(String what, EnumRules x, String want) {
        same(what + ": the trace", trace(x), want);
    }

    void finish(String name) {
        System.out.println(name + ": " + right + " answers as due, " + wrong + " not");
        if (wrong != 0) {
            System.exit(1);
        }
    }
}
