import java.util.Set;
import java.util.TreeSet;

/** The sentences of the promises 1 to 19 that name a boundary case, a method for each. */
public final class CallsBoundsTest {
    private static final int UNKNOWN = EnumRules.UNKNOWN, OUTSIDE = EnumRules.OUTSIDE;
    private static final int ROOM = EnumRules.ROOM, NONE = EnumRules.NONE;
    private static final int MAX = Integer.MAX_VALUE, MIN = Integer.MIN_VALUE;
    /** A is done by a start, B fails by its own, C by B's. */
    private static final String TEXT = "enum A{X(5){m=7;},Y(6);maker=arg;def m=val;field f=A.Y+1;const k=9;}"
        + "enum B{X(8);maker=arg/0;def m=val;field f=3;const k=4;}enum C{X;maker=B.X;def m=1;field f=2;}";
    private static final String TWELVE = "enum A{a,b,c,d,e,f,g,h,i,j,k,l;maker=place*place+1;}";
    private static final Check check = new Check();
    private static final Set<Integer> promises = new TreeSet<>();

    public static void main(String[] args) {
        newObject();
        feedBytes();
        feedRoom();
        end();
        endThenFeed();
        endCutsTokens();
        loadEmptiesTape();
        loadTakesPlace();
        loadAfterLoads();
        loadWithFault();
        loadAnswers();
        fault();
        causeAtFirst();
        causeOfLatest();
        told();
        toldStates();
        hasBody();
        value();
        valueFails();
        valueIsAnyNumber();
        call();
        callFails();
        field();
        constField();
        fieldFails();
        comparePlaces();
        compareStarts();
        compareFails();
        values();
        valuesFails();
        swap();
        swapTouchesNoOther();
        hand();
        handFails();
        named();
        namedUnknown();
        namedNull();
        namedArgument();
        namedFails();
        trace();
        counts();
        countFailed();
        clearAnswers();
        clearAll();
        check.due("promises with a test", promises.size(), 19);
        check.finish("CallsBoundsTest");
    }

    /** The words must stand in the promise's own section. */
    private static void says(int promise, String words) {
        check.says(words);
        String document = check.document();
        int from = document.indexOf("## Promise " + promise + ":");
        int to = document.indexOf("## ", from + 3);
        int at = document.indexOf(words, from);
        check.holds("stands in promise " + promise, from >= 0 && at > from && at < to);
        promises.add(promise);
    }

    // ---- the tape

    private static void newObject() {
        says(1, "Nothing is loaded; THE HAND is empty.");
        EnumRules x = new EnumRules();
        check.due("count(0)", x.count(0), 0);
        check.due("count(2)", x.count(2), 0);
        check.due("told(0, 0)", x.told(0, 0), UNKNOWN);
        check.due("values(0)", x.values(0), UNKNOWN);
        check.due("swap(0, 0)", x.swap(0, 0), OUTSIDE);
        check.fails("hand(0)", x, 0, x.hand(0), 4);
        check.due("clear()", x.clear(), 0);
        check.due("load()", new EnumRules().load(), 0);
    }

    private static void feedBytes() {
        says(2, "Twenty bytes come behind THE TAPE, each number's highest first: how many it has.");
        EnumRules x = new EnumRules();
        check.due("feed", x.feed(0x656e756d, 0x20416263, 0x64656667, 0x68696a6b, 0x6c7b587d), 20);
        check.due("enum Abcdefghijkl{X}", x.load(), 1);
        for (int at = 0; at < 20; at++) {
            for (int b : new int[] {0, 1, 127, 128, 255}) {
                oneOther(at, b);
            }
        }
        EnumRules y = new EnumRules();
        check.due("feed", Check.feed(y, "enum A{X}enum B{X,Y}", 0), 20);
        check.due("feed", Check.feed(y, "enum C{X,Y,Z}       ", 0), 40);
        check.due("in their order", y.load(), 3);
        for (int e = 0; e < 3; e++) {
            check.due("constants of " + e, y.told(e, 0), e + 1);
        }
    }

    /** Twenty blanks but one byte, which is none: its place tells which byte of which number it was. */
    private static void oneOther(int at, int b) {
        int[] n = {0x20202020, 0x20202020, 0x20202020, 0x20202020, 0x20202020};
        int shift = 24 - 8 * (at % 4);
        n[at / 4] = n[at / 4] & ~(255 << shift) | b << shift;
        EnumRules x = new EnumRules();
        check.due("feed", x.feed(n[0], n[1], n[2], n[3], n[4]), 20);
        check.due("load with byte " + b + " at " + at, x.load(), -11);
        check.due("fault(1) with byte " + b + " at " + at, x.fault(1), at);
    }

    private static void feedRoom() {
        says(2, "ROOM.");
        EnumRules x = new EnumRules();
        Check.tape(x, " ".repeat(1980));
        check.due("the last that there is room for", Check.feed(x, "enum A{X}enum B{X,Y}", 0), 2000);
        check.due("the first without room", x.feed(0, 0, 0, 0, 0), ROOM);
        check.due("count(3)", x.count(3), 2000);
        check.due("load", x.load(), 2);
        check.due("there is room again", x.feed(0, 0, 0, 0, 0), 20);
        Check.tape(x, " ".repeat(1981));
        check.due("a byte too much", x.feed(0, 0, 0, 0, 0), ROOM);
        check.due("count(3)", x.count(3), 1981);
        check.due("none of its bytes came", x.load(), 0);
        Check.tape(x, " ".repeat(2000));
        x.clear();
        check.due("there is room after clear()", x.feed(0, 0, 0, 0, 0), 20);
    }

    private static void end() {
        says(3, "THE TAPE keeps its first n bytes: n. OUTSIDE.");
        for (int length : new int[] {0, 1, 9, 20, 1999, 2000}) {
            EnumRules x = new EnumRules();
            Check.tape(x, " ".repeat(length));
            for (int n : new int[] {MIN, -1, length + 1, length + 20, MAX}) {
                check.due("end(" + n + ") of " + length, x.end(n), OUTSIDE);
                check.due("count(3)", x.count(3), length);
            }
            check.due("end(" + length + ")", x.end(length), length);
            check.due("count(3)", x.count(3), length);
            if (length > 0) {
                check.due("end of one less", x.end(length - 1), length - 1);
                check.due("it can't be had back", x.end(length), OUTSIDE);
                check.due("count(3)", x.count(3), length - 1);
            }
            check.due("end(0)", x.end(0), 0);
            check.due("end(1) of none", x.end(1), OUTSIDE);
            check.due("count(3)", x.count(3), 0);
        }
    }

    private static void endThenFeed() {
        says(3, "THE TAPE keeps its first n bytes: n.");
        EnumRules x = new EnumRules();
        Check.tape(x, "enum A{X,Y,#########################");
        check.due("end", x.end(10), 10);
        check.due("feed behind the kept ones", Check.feed(x, "}enum B{}           ", 0), 30);
        check.due("load", x.load(), 2);
        check.due("constants", x.told(0, 0), 2);
        Check.tape(x, "enum A{X}#");
        check.due("end", x.end(9), 9);
        check.due("load of what was kept", x.load(), 1);
        Check.tape(x, "enum A{X}");
        check.due("end", x.end(8), 8);
        check.due("load of what was kept", x.load(), -11);
        check.due("fault(1)", x.fault(1), 8);
    }

    /** What was cut off belongs to no token any more. */
    private static void endCutsTokens() {
        says(3, "THE TAPE keeps its first n bytes: n.");
        EnumRules x = new EnumRules();
        cut(x, "enum A{X}}", 9, 1);
        cut(x, "enum A{X}enum", 9, 1);
        cut(x, "enumA", 4, -11);
        check.due("the word is whole", x.fault(1), 4);
        cut(x, "enum abcdefghijklm", 17, -11);
        check.due("a name of twelve", x.fault(1), 17);
        cut(x, "enum A{X(1234567890", 18, -11);
        check.due("a number of nine", x.fault(1), 18);
        cut(x, "enum A{X(12)}", 13, 1);
        Check.tape(x, "XY");
        x.end(1);
        check.due("a shorter name", x.named(0), 0);
        check.due("cause", x.cause(), 0);
        cut(x, "enum A{XY}      ", 8, -11);
        check.due("the name is whole", x.fault(1), 8);
        Check.load(x, "enum A{X,XY}");
        Check.tape(x, "XYZ");
        x.end(2);
        check.due("a shorter name", x.named(0), 1);
        check.due("cause", x.cause(), 0);
    }

    private static void cut(EnumRules x, String text, int keep, int answer) {
        Check.tape(x, text);
        check.due("end(" + keep + ")", x.end(keep), keep);
        check.due("load of " + text.substring(0, keep), x.load(), answer);
    }

    // ---- load

    private static void loadEmptiesTape() {
        says(4, "THE TAPE, which is empty then, is a text");
        EnumRules x = new EnumRules();
        check.due("load of an empty tape", x.load(), 0);
        check.due("load", Check.load(x, "enum A{X}"), 1);
        check.due("count(3)", x.count(3), 0);
        check.due("load of the empty tape", x.load(), 0);
        check.due("no enums", x.count(0), 0);
        check.due("load with a fault", Check.load(x, "enum A{X"), -11);
        check.due("count(3)", x.count(3), 0);
        check.due("fault 2", Check.load(x, "enum A{X,X}"), -12);
        check.due("count(3)", x.count(3), 0);
        check.due("feed from the start", Check.feed(x, "enum A{X}enum B{X,Y}", 0), 20);
        check.due("load", x.load(), 2);
        check.due("load of a full tape", Check.load(x, "enum A{X}" + " ".repeat(1991)), 1);
        check.due("count(3)", x.count(3), 0);
    }

    private static void loadTakesPlace() {
        says(4, "without a FAULT its ENUMS take the place of all, THE TRACE and THE HAND are empty");
        EnumRules x = Check.loaded(TEXT);
        x.values(0);
        x.value(2, 0);
        check.due("load", Check.load(x, "enum Z{P(3);maker=arg;}"), 1);
        check.due("count(0)", x.count(0), 1);
        check.due("count(1)", x.count(1), 0);
        check.due("trace(0)", x.trace(0), NONE);
        check.due("count(2)", x.count(2), 0);
        check.due("told(1, 0)", x.told(1, 0), UNKNOWN);
        check.due("told(0, 0)", x.told(0, 0), 1);
        check.due("told(0, 1)", x.told(0, 1), 0);
        check.due("told(0, 4)", x.told(0, 4), 0);
        check.due("hasBody", x.hasBody(0, 0), 0);
        check.due("value", x.value(0, 0), 3);
        check.due("call", x.call(0, 0, 0), UNKNOWN);
        check.due("field", x.field(0, 0), UNKNOWN);
        check.due("name of before", Check.named(x, 0, "X"), 0);
        check.due("cause", x.cause(), 3);
        check.due("swap", x.swap(0, 0), OUTSIDE);
        check.due("load of an empty text", x.load(), 0);
        check.due("count(0)", x.count(0), 0);
        check.due("count(1)", x.count(1), 0);
    }

    private static final String[] ROUNDS = {TEXT, TWELVE, "enum Z{P}", "",
        "enum A{X{m=1;},Y(7){m=val;n=2;};abstract m;def n=place;field f=A.Y;const k=3;maker=arg+k;}enum B{P{};maker=A.X;}",
        "enum A{X,Y,Z;maker=A.Y;}enum B{;field f=g+1;field g=f;}enum C{P{},Q;field f=g+1;field g=f;def m=val+1;}",
        "enum A{X;def m=" + Check.times("(-", 4) + "1+", "enum A{X;maker=1*(-(1" + Check.times("+1", 20), "enum A{X;maker=2-3*;}",
        "enum A{X{m=arg;};field f=q;maker=f;abstract n;}"};

    /** A third load comes into the rows of the first one: nothing of what was there may be seen. */
    private static void loadAfterLoads() {
        says(4, "without a FAULT its ENUMS take the place of all, THE TRACE and THE HAND are empty");
        for (String first : ROUNDS) {
            for (String second : ROUNDS) {
                for (String third : ROUNDS) {
                    EnumRules x = Check.loaded(TEXT);
                    load(x, first);
                    load(x, second);
                    EnumRules y = new EnumRules();
                    int answer = Check.load(y, third);
                    check.due("load of " + third, Check.load(x, third), answer);
                    check.due("fault(1) of " + third, x.fault(1), y.fault(1));
                    if (answer >= 0) {
                        check.same(third + " after " + first + " and " + second, Twins.enums(x), Twins.enums(y));
                    }
                }
            }
        }
    }

    private static void load(EnumRules x, String text) {
        Check.load(x, text);
        for (int e = 0; e < x.count(0); e++) {
            x.values(e);
        }
    }

    private static void loadWithFault() {
        says(4, "without a FAULT its ENUMS take the place of all, THE TRACE and THE HAND are empty");
        String[] faulty = {"#", "enum A{X,X}", "enum A{X{m=1;}}", "enum A{X;abstract m;}", "enum A{X;field f=1;maker=f;}", "enum A{X;def m=q;}"};
        for (int k = 0; k < faulty.length; k++) {
            EnumRules x = Check.loaded(TEXT);
            x.values(0);
            x.swap(0, 1);
            x.value(2, 0);
            check.due("load of " + faulty[k], Check.load(x, faulty[k]), -11 - k);
            check.due("count(0)", x.count(0), 3);
            check.traced("it stays", x, "0 1 2 100 2000 1000 1200 2200");
            check.due("cause() stays", x.cause(), 2);
            check.due("count(4) stays", x.count(4), 1);
            check.due("hand(0)", x.hand(0), 6);
            check.due("hand(1)", x.hand(1), 5);
            check.due("told(0, 4)", x.told(0, 4), 1);
            check.due("told(1, 4)", x.told(1, 4), 2);
            check.due("call", x.call(0, 0, 0), 7);
            check.due("name", Check.named(x, 0, "Y"), 1);
        }
    }

    private static void loadAnswers() {
        says(4, "how many; -10 less the FAULT.");
        for (int many = 0; many <= 8; many++) {
            check.due("load of " + many, Check.load(new EnumRules(), Check.times("enum A#{X}", many)), many);
        }
        check.due("load of nine", Check.load(new EnumRules(), Check.times("enum A#{X}", 9)), -11);
        check.due("fault 6", Check.load(new EnumRules(), "enum A{X;def m=q;}"), -16);
    }

    private static void fault() {
        says(5, "Of the latest load(): which FAULT (what = 0; 0 none), its place (1; NONE). OUTSIDE.");
        EnumRules x = new EnumRules();
        faultIs("before any load", x, 0, NONE);
        Check.load(x, "#");
        faultIs("at the first byte", x, 1, 0);
        Check.load(x, " ".repeat(1999) + "#");
        faultIs("at the last byte", x, 1, 1999);
        Check.load(x, "enum A{" + " ".repeat(1993));
        faultIs("behind the last byte", x, 1, 2000);
        Check.load(x, "enum A{X,X}");
        faultIs("fault 2", x, 2, 9);
        Check.tape(x, "enum A{X}");
        x.value(0, 0);
        faultIs("other calls leave it", x, 2, 9);
        x.load();
        faultIs("of the latest", x, 0, NONE);
        x.value(0, 0);
        for (int what : new int[] {MIN, -1, 2, MAX}) {
            check.due("fault(" + what + ")", x.fault(what), OUTSIDE);
        }
    }

    private static void faultIs(String what, EnumRules x, int number, int place) {
        check.due("fault(0) " + what, x.fault(0), number);
        check.due("fault(1) " + what, x.fault(1), place);
    }

    private static void causeAtFirst() {
        says(6, "0 at first.");
        EnumRules x = new EnumRules();
        check.due("of a new one", x.cause(), 0);
        Check.load(x, "#");
        check.due("a fault is none", x.cause(), 0);
        Check.load(x, TEXT);
        check.due("after a load", x.cause(), 0);
    }

    private static void causeOfLatest() {
        says(6, "The CAUSE of the latest call of those that may FAIL: value(), call(), field(), compare(), values(), hand(), named()");
        latest("value", x -> x.value(0, 0), x -> x.value(1, 0), 2);
        latest("call", x -> x.call(0, 0, 0), x -> x.call(1, 0, 0), 2);
        latest("field", x -> x.field(0, 0), x -> x.field(1, 0), 2);
        latest("compare", x -> x.compare(0, 0, 0, 1), x -> x.compare(0, 0, 1, 0), 2);
        latest("values", x -> x.values(0), x -> x.values(1), 2);
        latest("hand", x -> x.hand(0), x -> x.hand(2), 4);
        latest("named", x -> Check.named(x, 0, "X"), x -> x.named(0), 1);
    }

    /** The good call tells 0 after a failed one, the bad one its cause, and no other call changes that. */
    private static void latest(String what, Twins.Call good, Twins.Call bad, int cause) {
        EnumRules x = Check.loaded(TEXT);
        x.values(0);
        x.hand(-1);
        check.due("cause ahead of " + what, x.cause(), 4);
        good.on(x);
        check.due("cause of " + what, x.cause(), 0);
        bad.on(x);
        check.due("cause of " + what + " that fails", x.cause(), cause);
        x.told(0, 4);
        x.hasBody(0, 0);
        x.swap(0, 1);
        x.trace(0);
        x.count(4);
        x.fault(0);
        x.feed(0, 0, 0, 0, 0);
        x.end(0);
        check.due("cause after other calls", x.cause(), cause);
        x.load();
        check.due("cause after a load", x.cause(), cause);
    }

    // ---- what is told

    private static void told() {
        says(7, "Of an ENUM: CONSTANTS (what = 0), MEMBERS (1), FIELDS by 'field' (2), by 'const' (3)");
        EnumRules x = Check.loaded("enum A{}enum B{X;def m=1;field f=1;const k=1;const l=1;}"
            + "enum C{a,b,c,d,e,f,g,h,i,j,k,l;" + Check.times("def m#=1;", 8) + Check.times("field f#=1;", 6) + "}"
            + "enum D{;" + Check.times("abstract m#;", 8) + Check.times("const f#=1;", 6) + "maker=1;}");
        int[][] want = {{0, 0, 0, 0, 0}, {1, 1, 1, 2, 0}, {12, 8, 6, 0, 0}, {0, 8, 0, 6, 0}};
        for (int e = 0; e < want.length; e++) {
            for (int k = 0; k < 5; k++) {
                check.due("told(" + e + ", " + k + ")", x.told(e, k), want[e][k]);
            }
        }
        check.due("it does not start", x.count(1), 0);
        for (int e : new int[] {MIN, -1, 4, MAX}) {
            check.due("told(" + e + ", 0)", x.told(e, 0), UNKNOWN);
            check.due("told(" + e + ", 5)", x.told(e, 5), UNKNOWN);
        }
        for (int k : new int[] {MIN, -1, 5, MAX}) {
            check.due("told(3, " + k + ")", x.told(3, k), OUTSIDE);
        }
    }

    private static void toldStates() {
        says(7, "0 not STARTED, 1 DONE, 2 it has FAILED (4). It does not START by this.");
        EnumRules x = Check.loaded(TEXT);
        for (int e = 0; e < 3; e++) {
            check.due("told(" + e + ", 4)", x.told(e, 4), 0);
            check.due("again", x.told(e, 4), 0);
        }
        check.due("count(1)", x.count(1), 0);
        x.value(0, 0);
        x.value(2, 0);
        check.due("done", x.told(0, 4), 1);
        check.due("failed", x.told(1, 4), 2);
        check.due("failed with it", x.told(2, 4), 2);
        check.due("the rest of a failed one", x.told(1, 0) * 1000 + x.told(1, 1) * 100 + x.told(1, 2) * 10 + x.told(1, 3), 1111);
    }

    private static void hasBody() {
        says(8, "Whether a CONSTANT has a body (with gives or none): 1, 0. It does not START by this. UNKNOWN.");
        EnumRules x = Check.loaded("enum A{a,b{},c{m=1;},d(1),e(1){},f(1){m=2;},g,h,i,j,k,l{};def m=0;}enum B{}enum C{X{};maker=1/0;}");
        int[] want = {0, 1, 1, 0, 1, 1, 0, 0, 0, 0, 0, 1};
        for (int c = 0; c < want.length; c++) {
            check.due("hasBody(0, " + c + ")", x.hasBody(0, c), want[c]);
        }
        for (int k : new int[] {MIN, -1, 12, MAX}) {
            check.due("hasBody(0, " + k + ")", x.hasBody(0, k), UNKNOWN);
        }
        for (int k : new int[] {MIN, -1, 3, MAX}) {
            check.due("hasBody(" + k + ", 0)", x.hasBody(k, 0), UNKNOWN);
        }
        check.due("of none", x.hasBody(1, 0), UNKNOWN);
        check.due("of the next", x.hasBody(2, 1), UNKNOWN);
        check.due("it does not start", x.count(1), 0);
        x.value(2, 0);
        check.due("of one that has failed", x.hasBody(2, 0), 1);
        check.due("cause() stays", x.cause(), 2);
        Check.load(x, "enum A{a,b,c}");
        check.due("none of another text", x.hasBody(0, 1), 0);
    }

    // ---- what is worked out

    private static void value() {
        says(9, "VAL of a CONSTANT. UNKNOWN");
        EnumRules x = Check.loaded(TWELVE + "enum B{}enum C{X}");
        for (int c = 0; c < 12; c++) {
            check.due("value(0, " + c + ")", x.value(0, c), c * c + 1);
        }
        for (int k : new int[] {MIN, -1, 12, MAX}) {
            check.due("value(0, " + k + ")", x.value(0, k), UNKNOWN);
        }
        for (int k : new int[] {MIN, -1, 3, MAX}) {
            check.due("value(" + k + ", 0)", x.value(k, 0), UNKNOWN);
        }
        check.due("of none", x.value(1, 0), UNKNOWN);
        check.due("of the next", x.value(2, 1), UNKNOWN);
        check.due("refused ones do not start", x.told(2, 4), 0);
        check.due("the last enum", x.value(2, 0), 0);
        check.due("is started", x.told(2, 4), 1);
    }

    private static void valueFails() {
        says(9, "FAILS as it is.");
        EnumRules x = Check.loaded(TEXT);
        check.fails("by /", x, 0, x.value(1, 0), 2);
        check.fails("gone", x, 1, x.value(1, 0), 6);
        check.fails("who wants it", x, 2, x.value(2, 0), 6);
        check.due("another one", x.value(0, 0), 5);
        check.due("cause", x.cause(), 0);
        check.due("count(4)", x.count(4), 3);
    }

    private static void valueIsAnyNumber() {
        says(9, "(It may be any number.)");
        EnumRules x = Check.loaded("enum A{a(1),b(2),c(4),d(9);maker=-(1000000+arg);}enum B{X;maker=-999999999*2-147483650;}enum C{X;maker=0;}");
        int[] codes = {UNKNOWN, OUTSIDE, ROOM, NONE};
        x.hand(0);
        for (int c = 0; c < codes.length; c++) {
            check.due("value(0, " + c + ")", x.value(0, c), codes[c]);
            check.due("cause", x.cause(), 0);
        }
        check.due("value(1, 0)", x.value(1, 0), MIN);
        check.due("value(2, 0)", x.value(2, 0), 0);
        check.due("cause of 0", x.cause(), 0);
        check.due("count(4)", x.count(4), 1);
    }

    private static void call() {
        says(10, "MEMBER m (as told in the text, from 0 on) of a CONSTANT is worked out: by its body, else by the def. UNKNOWN");
        EnumRules x = Check.loaded("enum A{X{m7=70;m1=10;m0=val;},Y{m0=3;};abstract m0;" + Check.times("const k#=0;", 3)
            + "def m1=1;def m2=2;def m3=3;def m4=4;def m5=5;def m6=6;def m7=7;maker=9;}enum B{X}enum C{;def m=1;}");
        int[][] want = {{9, 10, 2, 3, 4, 5, 6, 70}, {3, 1, 2, 3, 4, 5, 6, 7}};
        for (int c = 0; c < 2; c++) {
            for (int m = 0; m < 8; m++) {
                check.due("call(0, " + c + ", " + m + ")", x.call(0, c, m), want[c][m]);
            }
        }
        for (int k : new int[] {MIN, -1, 8, MAX}) {
            check.due("call(0, 0, " + k + ")", x.call(0, 0, k), UNKNOWN);
        }
        for (int k : new int[] {MIN, -1, 2, MAX}) {
            check.due("call(0, " + k + ", 0)", x.call(0, k, 0), UNKNOWN);
        }
        for (int k : new int[] {MIN, -1, 3, MAX}) {
            check.due("call(" + k + ", 0, 0)", x.call(k, 0, 0), UNKNOWN);
        }
        check.due("no member", x.call(1, 0, 0), UNKNOWN);
        check.due("no constant", x.call(2, 0, 0), UNKNOWN);
        check.due("not started by that", x.told(1, 4) + x.told(2, 4), 0);
    }

    private static void callFails() {
        says(10, "FAILS as it is, by a / in it.");
        EnumRules x = Check.loaded("enum A{X(1){m=6/(val-1);},Y(2);maker=arg;def m=6/(val-1);def n=B.X;}enum B{X;maker=1/0;def m=5;}");
        check.fails("a / in the body", x, 0, x.call(0, 0, 0), 2);
        check.due("its ENUM stays", x.told(0, 4), 1);
        check.due("the def", x.call(0, 1, 0), 6);
        check.due("cause", x.cause(), 0);
        check.fails("what it wants fails", x, 1, x.call(0, 0, 1), 2);
        check.fails("what it wants is gone", x, 2, x.call(0, 0, 1), 6);
        check.fails("it is gone itself", x, 3, x.call(1, 0, 0), 6);
        check.due("its ENUM stays", x.told(0, 4), 1);
        EnumRules y = Check.loaded("enum B{X;maker=1/0;def m=5;}");
        check.fails("its start fails", y, 0, y.call(0, 0, 0), 2);
    }

    private static void field() {
        says(11, "FIELD f (as told, both sorts together).");
        EnumRules x = Check.loaded("enum A{;const a=1;field b=2;const c=3;field d=4;def m=7;field e=5;const f=6;}enum B{X;def m=1;}enum C{;const k=8;}");
        for (int f = 0; f < 6; f++) {
            check.due("field(0, " + f + ")", x.field(0, f), f + 1);
            check.due("cause", x.cause(), 0);
        }
        for (int k : new int[] {MIN, -1, 6, MAX}) {
            check.due("field(0, " + k + ")", x.field(0, k), UNKNOWN);
        }
        for (int k : new int[] {MIN, -1, 3, MAX}) {
            check.due("field(" + k + ", 0)", x.field(k, 0), UNKNOWN);
        }
        check.due("no field", x.field(1, 0), UNKNOWN);
        check.due("one field", x.field(2, 0), 8);
        check.due("no second", x.field(2, 1), UNKNOWN);
        check.due("not started by that", x.told(1, 4) + x.told(2, 4), 0);
    }

    private static void constField() {
        says(11, "One by 'const' does not START its ENUM, nor FAIL.");
        EnumRules x = Check.loaded("enum A{X;const k=999999999;field f=1/0;const l=0;}");
        check.due("k", x.field(0, 0), 999999999);
        check.due("l", x.field(0, 2), 0);
        check.due("not started", x.told(0, 4), 0);
        check.due("no row", x.count(1), 0);
        check.fails("f", x, 0, x.field(0, 1), 2);
        check.due("k of a gone one", x.field(0, 0), 999999999);
        check.due("cause", x.cause(), 0);
        check.due("l of a gone one", x.field(0, 2), 0);
        check.due("cause", x.cause(), 0);
        check.due("count(4)", x.count(4), 1);
    }

    private static void fieldFails() {
        says(11, "UNKNOWN; FAILS as it is.");
        EnumRules x = Check.loaded("enum A{X;field f=7;field g=B.X;}enum B{X;field f=A.X;field g=1/0;}");
        check.fails("one set before", x, 0, x.field(0, 0), 2);
        check.fails("gone", x, 1, x.field(0, 0), 6);
        check.fails("gone with it", x, 2, x.field(1, 0), 6);
        check.due("none such", x.field(0, 2), UNKNOWN);
        check.due("cause() stays", x.cause(), 6);
        check.due("count(4)", x.count(4), 3);
    }

    private static void comparePlaces() {
        says(12, "Places of two CONSTANTS: 1 the first one is ahead, 2 they are the same, 3 it is behind.");
        EnumRules x = Check.loaded(TWELVE.replace("place*place+1", "-place"));
        for (int c : new int[] {0, 1, 5, 10, 11}) {
            for (int d : new int[] {0, 1, 5, 10, 11}) {
                check.due("compare(0, " + c + ", 0, " + d + ")", x.compare(0, c, 0, d), c < d ? 1 : c == d ? 2 : 3);
                check.due("cause", x.cause(), 0);
            }
        }
        for (int k : new int[] {MIN, -1, 12, MAX}) {
            check.due("compare(0, " + k + ", 0, 0)", x.compare(0, k, 0, 0), UNKNOWN);
            check.due("compare(0, 0, 0, " + k + ")", x.compare(0, 0, 0, k), UNKNOWN);
            check.due("compare(0, " + k + ", 0, " + k + ")", x.compare(0, k, 0, k), UNKNOWN);
        }
        for (int k : new int[] {MIN, -1, 1, MAX}) {
            check.due("compare(" + k + ", 0, 0, 0)", x.compare(k, 0, 0, 0), UNKNOWN);
            check.due("compare(0, 0, " + k + ", 0)", x.compare(0, 0, k, 0), UNKNOWN);
            check.due("compare(" + k + ", 0, " + k + ", 0)", x.compare(k, 0, k, 0), UNKNOWN);
        }
    }

    private static void compareStarts() {
        says(12, "Both ENUMS START, the first one ahead.");
        EnumRules x = Check.loaded("enum A{X}enum B{X}enum C{X,Y}");
        check.due("the last one, with itself", x.compare(2, 0, 2, 1), 1);
        check.traced("once", x, "2000 2001 2002 2100");
        check.fails("unlike ones", x, 0, x.compare(1, 0, 0, 0), 5);
        check.traced("the first one ahead", x, "2000 2001 2002 2100 1000 1001 1100 0 1 100");
    }

    private static void compareFails() {
        says(12, "UNKNOWN; FAILS as they are; CAST: of unlike ENUMS.");
        EnumRules x = Check.loaded(TEXT + "enum D{X,Y}");
        check.fails("the first one by /", x, 0, x.compare(1, 0, 0, 0), 2);
        check.due("the second one is not started", x.told(0, 4), 0);
        check.fails("the second one is gone", x, 1, x.compare(0, 0, 1, 0), 6);
        check.due("the first one is started", x.told(0, 4), 1);
        check.fails("both are gone", x, 2, x.compare(1, 0, 1, 0), 6);
        check.fails("unlike ones, at the same place", x, 3, x.compare(0, 1, 3, 1), 5);
        check.fails("unlike ones", x, 4, x.compare(3, 0, 0, 1), 5);
        check.due("unlike ones stay", x.told(0, 4) * 10 + x.told(3, 4), 11);
        check.due("no constant of unlike ones", x.compare(0, 2, 3, 0), UNKNOWN);
        check.due("like ones", x.compare(3, 1, 3, 0), 3);
    }

    // ---- the hand

    private static void values() {
        says(13, "THE HAND becomes a fresh row of its CONSTANTS: how many. UNKNOWN");
        EnumRules x = Check.loaded(TWELVE + "enum B{}enum C{X(5);maker=arg;}");
        check.due("twelve", x.values(0), 12);
        check.due("count(2)", x.count(2), 12);
        for (int k = 0; k < 12; k++) {
            check.due("hand(" + k + ")", x.hand(k), k * k + 1);
        }
        x.swap(0, 11);
        check.due("again", x.values(0), 12);
        check.due("fresh", x.hand(0), 1);
        check.due("one", x.values(2), 1);
        check.due("count(2)", x.count(2), 1);
        check.due("hand(0)", x.hand(0), 5);
        check.fails("hand(1)", x, 0, x.hand(1), 4);
        for (int k : new int[] {MIN, -1, 3, MAX}) {
            check.due("values(" + k + ")", x.values(k), UNKNOWN);
            check.due("count(2)", x.count(2), 1);
        }
        check.due("none", x.values(1), 0);
        check.due("cause", x.cause(), 0);
        check.due("count(2)", x.count(2), 0);
        check.due("twelve once more", x.values(0), 12);
    }

    private static void valuesFails() {
        says(13, "FAILS as it is (THE HAND stays).");
        EnumRules x = Check.loaded(TEXT);
        check.fails("with an empty hand", x, 0, x.values(1), 2);
        check.due("count(2)", x.count(2), 0);
        check.due("values", x.values(0), 2);
        x.swap(0, 1);
        check.fails("gone", x, 1, x.values(1), 6);
        check.due("count(2)", x.count(2), 2);
        check.due("hand(0)", x.hand(0), 6);
        check.due("hand(1)", x.hand(1), 5);
        check.fails("who wants it", x, 2, x.values(2), 6);
        check.due("hand(0)", x.hand(0), 6);
    }

    private static void swap() {
        says(14, "Places i and j of THE HAND are exchanged");
        EnumRules x = Check.loaded(TWELVE + "enum B{}enum C{X}");
        check.due("of an empty hand", x.swap(0, 0), OUTSIDE);
        x.values(0);
        check.due("the first and the last", x.swap(0, 11), 1);
        check.due("hand(0)", x.hand(0), 122);
        check.due("hand(11)", x.hand(11), 1);
        check.due("the last and the first", x.swap(11, 0), 1);
        check.due("hand(0)", x.hand(0), 1);
        check.due("one with itself", x.swap(5, 5), 1);
        check.due("hand(5)", x.hand(5), 26);
        for (int k : new int[] {MIN, -1, 12, MAX}) {
            check.due("swap(0, " + k + ")", x.swap(0, k), OUTSIDE);
            check.due("swap(" + k + ", 0)", x.swap(k, 0), OUTSIDE);
            check.due("swap(" + k + ", " + k + ")", x.swap(k, k), OUTSIDE);
        }
        for (int k = 0; k < 12; k++) {
            check.due("hand(" + k + ") stays", x.hand(k), k * k + 1);
        }
        x.values(2);
        check.due("of one", x.swap(0, 0), 1);
        check.due("of one", x.swap(0, 1), OUTSIDE);
        x.values(1);
        check.due("of none", x.swap(0, 0), OUTSIDE);
    }

    private static void swapTouchesNoOther() {
        says(14, "(what was fresh for others is not touched): 1. OUTSIDE: there are none such.");
        EnumRules x = Check.loaded(TEXT);
        x.values(0);
        check.due("swap", x.swap(0, 1), 1);
        check.due("value", x.value(0, 0), 5);
        check.due("call", x.call(0, 0, 0), 7);
        check.due("field", x.field(0, 0), 7);
        check.due("compare", x.compare(0, 0, 0, 1), 1);
        check.due("hasBody", x.hasBody(0, 0), 1);
        check.due("named", Check.named(x, 0, "X"), 0);
        check.due("hand(0)", x.hand(0), 6);
        check.due("values", x.values(0), 2);
        check.due("hand(0) of a fresh row", x.hand(0), 5);
        check.due("no row more", x.count(1), 4);
    }

    private static void hand() {
        says(15, "The VAL of what is at place i of THE HAND.");
        EnumRules x = Check.loaded("enum A{X(1),Y(2),Z(9);maker=-(1000000+arg);}enum B{P}");
        x.values(0);
        check.due("hand(0)", x.hand(0), UNKNOWN);
        check.due("hand(1)", x.hand(1), OUTSIDE);
        check.due("hand(2)", x.hand(2), NONE);
        check.due("cause", x.cause(), 0);
        check.due("other enums leave it", x.value(1, 0), 0);
        check.due("hand(2)", x.hand(2), NONE);
        check.due("count(4)", x.count(4), 0);
    }

    private static void handFails() {
        says(15, "FAILS: INDEX: there is none such.");
        EnumRules x = new EnumRules();
        check.fails("hand(0) of a new one", x, 0, x.hand(0), 4);
        Check.load(x, TWELVE + "enum B{}");
        check.fails("hand(0) of a loaded one", x, 1, x.hand(0), 4);
        x.values(0);
        check.due("hand(11)", x.hand(11), 122);
        int failed = 2;
        for (int k : new int[] {MIN, -1, 12, 13, MAX}) {
            check.fails("hand(" + k + ")", x, failed, x.hand(k), 4);
            failed++;
        }
        check.due("the hand stays", x.count(2), 12);
        x.values(1);
        check.fails("hand(0) of none", x, failed, x.hand(0), 4);
        x.values(0);
        Check.load(x, TWELVE);
        check.fails("hand(0) after a load", x, failed + 1, x.hand(0), 4);
    }

    private static void named() {
        says(16, "THE TAPE, which is empty then, is a NAME: the place of the CONSTANT of an ENUM that bears it. It STARTS.");
        EnumRules x = Check.loaded("enum A{a,b,bb,bbb,B,b1,abcdefghijkl,abcdefghijkm,h,i,k,l}enum B{a,c}");
        check.due("the first", Check.named(x, 0, "a"), 0);
        check.due("count(3)", x.count(3), 0);
        check.due("it starts", x.told(0, 4), 1);
        String[] names = {"a", "b", "bb", "bbb", "B", "b1", "abcdefghijkl", "abcdefghijkm", "h", "i", "k", "l"};
        for (int c = 0; c < names.length; c++) {
            check.due("named " + names[c], Check.named(x, 0, names[c]), c);
            check.due("cause", x.cause(), 0);
            check.due("count(3)", x.count(3), 0);
        }
        check.due("in the other one", Check.named(x, 1, "c"), 1);
        check.due("not in this one", Check.named(x, 0, "c"), 0);
        check.due("cause", x.cause(), 3);
    }

    private static void namedUnknown() {
        says(16, "UNKNOWN (THE TAPE stays).");
        EnumRules x = Check.loaded("enum A{X,Y}");
        Check.tape(x, "Y");
        for (int k : new int[] {MIN, -1, 1, MAX}) {
            check.due("named(" + k + ")", x.named(k), UNKNOWN);
            check.due("count(3)", x.count(3), 1);
        }
        check.due("cause", x.cause(), 0);
        check.due("not started by that", x.told(0, 4), 0);
        check.due("its byte stays", x.named(0), 1);
        check.due("an empty one", x.named(1), UNKNOWN);
        check.due("count(4)", x.count(4), 0);
    }

    private static void namedNull() {
        says(16, "NULL: THE TAPE was empty");
        EnumRules x = Check.loaded("enum A{X}enum B{}");
        check.fails("named", x, 0, x.named(0), 1);
        check.due("it starts", x.told(0, 4), 1);
        check.fails("of none", x, 1, x.named(1), 1);
        check.due("it starts", x.told(1, 4), 1);
        check.due("a NAME empties it", Check.named(x, 0, "X"), 0);
        check.due("cause", x.cause(), 0);
        check.fails("named again", x, 2, x.named(0), 1);
        Check.tape(x, "X");
        x.end(0);
        check.fails("after end(0)", x, 3, x.named(0), 1);
        check.fails("one byte is not empty", x, 4, Check.named(x, 0, " "), 3);
        check.fails("nor is byte 0", x, 5, Check.named(x, 0, "\u0000"), 3);
    }

    private static void namedArgument() {
        says(16, "ARGUMENT: there is none such.");
        EnumRules x = Check.loaded("enum A{X,XY,abcdefghijkl;def m=1;const k=1;}enum B{}");
        int failed = 0;
        for (String none : new String[] {"x", "Y", "XYZ", "X ", " X", "X\n", "X,XY", "X,", "m", "k", "A", "B", "enum", "1", "#", "X\u0000",
            "abcdefghijk", "abcdefghijklm", "abcdefghijkm", " ".repeat(2000), "X".repeat(2000)}) {
            check.fails("named " + none.trim(), x, failed, Check.named(x, 0, none), 3);
            check.due("count(3)", x.count(3), 0);
            failed++;
        }
        check.fails("of none", x, failed, Check.named(x, 1, "X"), 3);
        check.due("X", Check.named(x, 0, "XY"), 1);
    }

    private static void namedFails() {
        says(16, "FAILS as it is");
        EnumRules x = Check.loaded(TEXT);
        check.fails("its start fails", x, 0, Check.named(x, 1, "X"), 2);
        check.due("the tape is empty", x.count(3), 0);
        check.fails("gone", x, 1, Check.named(x, 1, "X"), 6);
        check.due("the tape is empty", x.count(3), 0);
        check.fails("gone, ahead of an empty tape", x, 2, x.named(1), 6);
        check.fails("gone, ahead of none such", x, 3, Check.named(x, 1, "Q"), 6);
        check.fails("who wants it, ahead of an empty tape", x, 4, x.named(2), 6);
    }

    // ---- the rest

    private static void trace() {
        says(17, "Row k of THE TRACE. NONE.");
        EnumRules x = new EnumRules();
        for (int k : new int[] {MIN, -1, 0, 1, 199, 200, MAX}) {
            check.due("trace(" + k + ") of a new one", x.trace(k), NONE);
        }
        Check.load(x, "enum A{X,Y}enum B{}");
        check.due("trace(0) of none", x.trace(0), NONE);
        x.value(0, 0);
        int[] want = {0, 1, 2, 100};
        for (int k = 0; k < want.length; k++) {
            check.due("trace(" + k + ")", x.trace(k), want[k]);
        }
        for (int k : new int[] {MIN, -1, 4, 5, 111, 112, 199, 200, MAX}) {
            check.due("trace(" + k + ")", x.trace(k), NONE);
        }
        x.values(1);
        check.due("trace(4)", x.trace(4), 1000);
        check.due("trace(5)", x.trace(5), 1100);
        check.due("trace(6)", x.trace(6), NONE);
        Check.load(x, "enum A{X}");
        check.due("trace(0) after a load", x.trace(0), NONE);
    }

    private static void counts() {
        says(18, "ENUMS (what = 0), rows of THE TRACE (1), places of THE HAND (2), bytes of THE TAPE (3)");
        EnumRules x = new EnumRules();
        countsAre("a new one", x, 0, 0, 0, 0, 0);
        Check.load(x, Check.times("enum A#{a,b,c,d,e,f,g,h,i,j,k,l}", 8));
        countsAre("loaded", x, 8, 0, 0, 0, 0);
        x.values(7);
        countsAre("in hand", x, 8, 14, 12, 0, 0);
        Check.tape(x, " ".repeat(2000));
        countsAre("full", x, 8, 14, 12, 2000, 0);
        x.hand(12);
        countsAre("failed", x, 8, 14, 12, 2000, 1);
        x.load();
        countsAre("empty", x, 0, 0, 0, 0, 1);
        for (int k : new int[] {MIN, -1, 5, MAX}) {
            check.due("count(" + k + ")", x.count(k), OUTSIDE);
        }
    }

    private static void countsAre(String what, EnumRules x, int... want) {
        for (int k = 0; k < 5; k++) {
            check.due("count(" + k + ") of " + what, x.count(k), want[k]);
        }
    }

    private static void countFailed() {
        says(18, "calls that FAILED since the beginning (4). OUTSIDE.");
        EnumRules x = Check.loaded(TEXT);
        check.fails("value", x, 0, x.value(2, 0), 2);
        check.fails("call", x, 1, x.call(1, 0, 0), 6);
        check.fails("field", x, 2, x.field(1, 0), 6);
        check.fails("compare", x, 3, x.compare(0, 0, 1, 0), 6);
        check.fails("values", x, 4, x.values(1), 6);
        check.fails("hand", x, 5, x.hand(0), 4);
        check.fails("named", x, 6, x.named(0), 1);
        x.value(0, 0);
        x.value(9, 9);
        x.swap(9, 9);
        x.count(9);
        x.trace(999);
        check.due("codes and answers are not counted", x.count(4), 7);
        Check.load(x, "#");
        check.due("nor is a fault", x.count(4), 7);
        Check.load(x, TEXT);
        check.due("a load leaves it", x.count(4), 7);
        x.clear();
        check.due("clear is a beginning", x.count(4), 0);
    }

    private static void clearAnswers() {
        says(19, "how many ENUMS there were.");
        for (int many = 0; many <= 8; many++) {
            EnumRules x = Check.loaded(Check.times("enum A#{X}", many));
            check.due("clear of " + many, x.clear(), many);
            check.due("clear again", x.clear(), 0);
        }
        EnumRules x = Check.loaded("enum A{X}enum B{}");
        Check.load(x, "#");
        check.due("clear after a fault", x.clear(), 2);
    }

    private static void clearAll() {
        says(19, "All is as at the beginning");
        EnumRules x = Twins.busy();
        check.due("clear", x.clear(), Twins.ENUMS);
        check.same("a cleared one", Twins.all(x), Twins.all(new EnumRules()));
        EnumRules y = Twins.withTape(2000);
        y.clear();
        check.due("load", Check.load(y, TEXT), 3);
        EnumRules z = Check.loaded(TEXT);
        check.same("a text after clear", Twins.all(y), Twins.all(z));
        EnumRules u = Check.loaded(TEXT);
        u.values(0);
        u.clear();
        check.fails("hand(0)", u, 0, u.hand(0), 4);
        check.due("swap", u.swap(0, 0), OUTSIDE);
        Check.load(u, "enum Z{X}");
        check.due("value of the new one", u.value(0, 0), 0);
        check.due("nothing of the old one", u.hasBody(0, 0), 0);
        check.traced("the new one", u, "0 1 100");
    }
}
