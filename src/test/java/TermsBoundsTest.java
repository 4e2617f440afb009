/** The sentences of the document's first section and of "Terms" that name a boundary case, a method for each. */
public final class TermsBoundsTest {
    private static final int UNKNOWN = EnumRules.UNKNOWN, OUTSIDE = EnumRules.OUTSIDE;
    private static final int ROOM = EnumRules.ROOM, NONE = EnumRules.NONE;
    private static final int MAX = Integer.MAX_VALUE, MIN = Integer.MIN_VALUE;
    private static final Check check = new Check();
    private static final Twins twins = new Twins(check);

    public static void main(String[] args) {
        callsThatFail();
        callsThatLoad();
        tapeBytes();
        tapeByteByByte();
        firstCode();
        refusedTape();
        refusedQuestions();
        refusedWork();
        refusedHand();
        refusedWhenEmpty();
        wrapping();
        failsAnswerZero();
        causes();
        check.finish("TermsBoundsTest");
    }

    private static void callsThatFail() {
        check.says("An object is used for at most 512 calls after it has been made");
        EnumRules x = new EnumRules();
        int wrong = 0;
        for (int k = 0; k < 510; k++) {
            wrong += x.hand(k) == 0 ? 0 : 1;
        }
        check.due("hand() 510 times, not 0", wrong, 0);
        check.due("cause() as the 511th call", x.cause(), 4);
        check.due("count(4) as the 512th call", x.count(4), 510);
    }

    private static void callsThatLoad() {
        check.says("An object is used for at most 512 calls after it has been made");
        EnumRules x = new EnumRules();
        for (int k = 1; k <= 128; k++) {
            check.due("feed", Check.feed(x, k % 2 == 0 ? "enum A{X}enum B{Y,Z}" : "enum A{X;maker=A.X;}", 0), 20);
            check.due("load", x.load(), k % 2 == 0 ? 2 : 1);
            check.due("values", x.values(0), k % 2 == 0 ? 1 : 0);
            check.due("count(4) as call " + 4 * k, x.count(4), (k + 1) / 2);
        }
    }

    private static void tapeBytes() {
        check.says("THE TAPE has 2000 bytes at most.");
        EnumRules x = new EnumRules();
        for (int k = 1; k <= 100; k++) {
            check.due("feed " + k, x.feed(0x20202020, 0x20202020, 0x20202020, 0x20202020, 0x20202020), 20 * k);
        }
        check.due("feed 101", x.feed(0x20202020, 0x20202020, 0x20202020, 0x20202020, 0x20202020), ROOM);
        check.due("count(3)", x.count(3), 2000);
        check.due("load of 2000 blanks", x.load(), 0);
        check.fault(0, " ".repeat(1991) + "enum A{X}");
        check.fault(1, " ".repeat(1992) + "enum A{X|");
        check.fault(1, "enum A{X}" + " ".repeat(1990) + "|#");
    }

    private static void tapeByteByByte() {
        check.says("THE TAPE has 2000 bytes at most.");
        for (int had = 1961; had <= 2000; had++) {
            EnumRules x = new EnumRules();
            Check.tape(x, " ".repeat(had));
            check.due("feed behind " + had, x.feed(0, 0, 0, 0, 0), had <= 1980 ? had + 20 : ROOM);
            check.due("count(3)", x.count(3), had <= 1980 ? had + 20 : had);
        }
    }

    private static void firstCode() {
        check.says("Codes, the first of these that fits: UNKNOWN -1000001 (an ENUM, CONSTANT, MEMBER, FIELD that there is not), "
            + "OUTSIDE -1000002 (another number out of its bounds), ROOM -1000004");
        EnumRules x = Check.loaded("enum A{X;def m=1;const k=1;}");
        for (int e : new int[] {MIN, -1, 1, MAX}) {
            for (int what : new int[] {MIN, -1, 0, 4, 5, MAX}) {
                check.due("told(" + e + ", " + what + ")", x.told(e, what), -1000001);
            }
        }
        for (int what : new int[] {MIN, -1, 5, MAX}) {
            check.due("told(0, " + what + ")", x.told(0, what), -1000002);
        }
        check.due("feed behind 1981", Twins.withTape(1981).feed(0, 0, 0, 0, 0), -1000004);
    }

    private static void refusedTape() {
        check.says("ROOM -1000004; then nothing changes.");
        for (int had : new int[] {1981, 1990, 1999, 2000}) {
            twins.refused("feed behind " + had, () -> Twins.withTape(had), x -> x.feed(-1, -1, -1, -1, -1), ROOM);
        }
        for (int n : new int[] {MIN, -1, Twins.TAPE + 1, 2000, 2001, MAX}) {
            twins.refused("end(" + n + ")", Twins::busy, x -> x.end(n), OUTSIDE);
        }
        twins.refused("end(2001) of a full one", () -> Twins.withTape(2000), x -> x.end(2001), OUTSIDE);
        for (int e : new int[] {MIN, -1, Twins.ENUMS, MAX}) {
            twins.refused("named(" + e + ")", Twins::busy, x -> x.named(e), UNKNOWN);
        }
    }

    private static void refusedQuestions() {
        check.says("ROOM -1000004; then nothing changes.");
        for (int k : new int[] {MIN, -1, 2, MAX}) {
            twins.refused("fault(" + k + ")", Twins::busy, x -> x.fault(k), OUTSIDE);
        }
        for (int k : new int[] {MIN, -1, 5, MAX}) {
            twins.refused("count(" + k + ")", Twins::busy, x -> x.count(k), OUTSIDE);
            twins.refused("told(2, " + k + ")", Twins::busy, x -> x.told(2, k), OUTSIDE);
        }
        for (int k : new int[] {MIN, -1, Twins.TRACE, 199, 200, MAX}) {
            twins.refused("trace(" + k + ")", Twins::busy, x -> x.trace(k), NONE);
        }
        for (int e : new int[] {MIN, -1, Twins.ENUMS, MAX}) {
            twins.refused("told(" + e + ", 4)", Twins::busy, x -> x.told(e, 4), UNKNOWN);
            twins.refused("hasBody(" + e + ", 0)", Twins::busy, x -> x.hasBody(e, 0), UNKNOWN);
        }
        for (int c : new int[] {MIN, -1, 2, MAX}) {
            twins.refused("hasBody(2, " + c + ")", Twins::busy, x -> x.hasBody(2, c), UNKNOWN);
        }
    }

    /** C, the ENUM 2, is not started: what is refused does not start it. */
    private static void refusedWork() {
        check.says("ROOM -1000004; then nothing changes.");
        for (int e : new int[] {MIN, -1, Twins.ENUMS, MAX}) {
            twins.refused("value(" + e + ", 0)", Twins::busy, x -> x.value(e, 0), UNKNOWN);
            twins.refused("call(" + e + ", 0, 0)", Twins::busy, x -> x.call(e, 0, 0), UNKNOWN);
            twins.refused("field(" + e + ", 0)", Twins::busy, x -> x.field(e, 0), UNKNOWN);
            twins.refused("compare(" + e + ", 0, 2, 0)", Twins::busy, x -> x.compare(e, 0, 2, 0), UNKNOWN);
            twins.refused("compare(2, 0, " + e + ", 0)", Twins::busy, x -> x.compare(2, 0, e, 0), UNKNOWN);
        }
        for (int c : new int[] {MIN, -1, 2, MAX}) {
            twins.refused("value(2, " + c + ")", Twins::busy, x -> x.value(2, c), UNKNOWN);
            twins.refused("call(2, " + c + ", 0)", Twins::busy, x -> x.call(2, c, 0), UNKNOWN);
            twins.refused("compare(2, " + c + ", 2, 0)", Twins::busy, x -> x.compare(2, c, 2, 0), UNKNOWN);
            twins.refused("compare(2, 0, 2, " + c + ")", Twins::busy, x -> x.compare(2, 0, 2, c), UNKNOWN);
            twins.refused("compare(0, 2, 2, " + c + ")", Twins::busy, x -> x.compare(0, 2, 2, c), UNKNOWN);
        }
        for (int k : new int[] {MIN, -1, 1, MAX}) {
            twins.refused("call(2, 0, " + k + ")", Twins::busy, x -> x.call(2, 0, k), UNKNOWN);
            twins.refused("field(2, " + k + ")", Twins::busy, x -> x.field(2, k), UNKNOWN);
        }
        twins.refused("value(1, 1) of one that has failed", Twins::busy, x -> x.value(1, 1), UNKNOWN);
        twins.refused("field(1, 2) of one that has failed", Twins::busy, x -> x.field(1, 2), UNKNOWN);
    }

    private static void refusedHand() {
        check.says("ROOM -1000004; then nothing changes.");
        for (int e : new int[] {MIN, -1, Twins.ENUMS, MAX}) {
            twins.refused("values(" + e + ")", Twins::busy, x -> x.values(e), UNKNOWN);
        }
        for (int k : new int[] {MIN, -1, Twins.HAND, 11, 12, MAX}) {
            twins.refused("swap(0, " + k + ")", Twins::busy, x -> x.swap(0, k), OUTSIDE);
            twins.refused("swap(" + k + ", 0)", Twins::busy, x -> x.swap(k, 0), OUTSIDE);
            twins.refused("swap(" + k + ", " + k + ")", Twins::busy, x -> x.swap(k, k), OUTSIDE);
        }
    }

    private static void refusedWhenEmpty() {
        check.says("ROOM -1000004; then nothing changes.");
        twins.refused("end(1) of a new one", EnumRules::new, x -> x.end(1), OUTSIDE);
        twins.refused("swap(0, 0) of a new one", EnumRules::new, x -> x.swap(0, 0), OUTSIDE);
        twins.refused("told(0, 0) of a new one", EnumRules::new, x -> x.told(0, 0), UNKNOWN);
        twins.refused("hasBody(0, 0) of a new one", EnumRules::new, x -> x.hasBody(0, 0), UNKNOWN);
        twins.refused("value(0, 0) of a new one", EnumRules::new, x -> x.value(0, 0), UNKNOWN);
        twins.refused("call(0, 0, 0) of a new one", EnumRules::new, x -> x.call(0, 0, 0), UNKNOWN);
        twins.refused("field(0, 0) of a new one", EnumRules::new, x -> x.field(0, 0), UNKNOWN);
        twins.refused("compare(0, 0, 0, 0) of a new one", EnumRules::new, x -> x.compare(0, 0, 0, 0), UNKNOWN);
        twins.refused("values(0) of a new one", EnumRules::new, x -> x.values(0), UNKNOWN);
        twins.refused("named(0) of a new one", EnumRules::new, x -> x.named(0), UNKNOWN);
        twins.refused("trace(0) of a new one", EnumRules::new, x -> x.trace(0), NONE);
    }

    private static void wrapping() {
        check.says("What is worked out is in 32 bits, wrapping");
        String max = "(999999999*2+147483649)";
        String min = "(-999999999*2-147483650)";
        worth(max, MAX);
        worth(min, MIN);
        worth(max + "+0", MAX);
        worth(max + "+1", MIN);
        worth(min + "-1", MAX);
        worth(min + "-0", MIN);
        worth("-" + max, MIN + 1);
        worth("-" + min, MIN);
        worth("0-" + min, MIN);
        worth(min + "*-1", MIN);
        worth(min + "/-1", MIN);
        worth(min + "/1", MIN);
        worth(max + "/-1", -MAX);
        worth(max + "*" + max, 1);
        worth(min + "*" + min, 0);
        worth(max + "*2", -2);
        worth("65536*65536", 0);
        worth("65536*32767+65535", MAX);
        worth("65536*32768", MIN);
        worth(max + "+" + max, -2);
        worth(min + "+" + min, 0);
        worth("(" + max + "+1)/2", -1073741824);
    }

    /** In a maker, a field, a def and a give. */
    private static void worth(String exp, int want) {
        EnumRules x = Check.loaded("enum A{X{n=" + exp + ";};maker=" + exp + ";field f=" + exp + ";def m=" + exp + ";abstract n;}");
        check.due("value of " + exp, x.value(0, 0), want);
        check.due("field of " + exp, x.field(0, 0), want);
        check.due("def of " + exp, x.call(0, 0, 0), want);
        check.due("give of " + exp, x.call(0, 0, 1), want);
        x.values(0);
        check.due("hand of " + exp, x.hand(0), want);
        check.due("cause of " + exp, x.cause(), 0);
    }

    /** Each would answer something else than 0, if it did not fail. */
    private static void failsAnswerZero() {
        check.says("a call that FAILS answers 0, and tells its CAUSE");
        String text = "enum G{X(5),Y(6);maker=arg;field f=3;field g=1/0;def m=8;const k=4;}enum D{X(9);maker=arg;def m=9/0;}";
        failing("value", text, x -> x.value(0, 0), 2);
        failing("call", text, x -> x.call(0, 1, 0), 2);
        failing("field", text, x -> x.field(0, 0), 2);
        failing("compare", text, x -> x.compare(0, 1, 0, 0), 2);
        failing("values", text, x -> x.values(0), 2);
        failing("named", text, x -> Check.named(x, 0, "Y"), 2);
        failing("call by a / in it", text, x -> x.call(1, 0, 0), 2);
        failing("compare of unlike ones", "enum A{X}enum B{X}", x -> x.compare(0, 0, 1, 0), 5);
        failing("hand", text, x -> x.hand(0), 4);
    }

    private static void failing(String name, String text, Twins.Call call, int cause) {
        EnumRules x = Check.loaded(text);
        check.fails(name, x, 0, call.on(x), cause);
    }

    private static void causes() {
        check.says("0 none, 1 NULL, 2 ARITHMETIC, 3 ARGUMENT, 4 INDEX, 5 CAST, 6 GONE (cause()).");
        EnumRules x = Check.loaded("enum A{X;maker=A.X;}enum B{X;maker=1/0;}enum C{X}");
        check.due("none at first", x.cause(), 0);
        check.fails("a constant that is not made yet", x, 0, x.value(0, 0), 1);
        check.fails("/ by 0", x, 1, x.value(1, 0), 2);
        check.fails("no such name", x, 2, Check.named(x, 2, "Y"), 3);
        check.fails("no such place", x, 3, x.hand(0), 4);
        check.fails("one that is gone", x, 4, x.value(0, 0), 6);
        check.fails("an empty tape", x, 5, x.named(2), 1);
        check.due("value", x.value(2, 0), 0);
        check.due("none", x.cause(), 0);
        EnumRules y = Check.loaded("enum A{X}enum B{X}");
        check.fails("unlike ones", y, 0, y.compare(1, 0, 0, 0), 5);
    }
}
