/** The promises 1 to 19, one method for each: ordinary inputs, the edges that the document names, wrong inputs. */
public final class PromisesTest {
    private static final int UNKNOWN = EnumRules.UNKNOWN, OUTSIDE = EnumRules.OUTSIDE;
    private static final int ROOM = EnumRules.ROOM, NONE = EnumRules.NONE;
    private static final int[] WRONG = {-1, Integer.MIN_VALUE, Integer.MAX_VALUE, 1000};
    private static final Check check = new Check();

    private static final String TWO = "enum E{X(4){m=val+1;},Y(6);def m=val*place;const k=9;field f=E.Y-k;maker=arg+k;}"
        + "enum F{P,Q;maker=E.X+place;}";
    private static final String GONE = "enum A{X;maker=B.X;}enum B{X,Y;maker=1/(1-place);const k=3;field f=1;def m=1;}enum C{X;}";

    public static void main(String[] args) {
        newObject();
        feed();
        end();
        load();
        fault();
        cause();
        told();
        hasBody();
        value();
        call();
        field();
        compare();
        values();
        swap();
        hand();
        named();
        trace();
        count();
        clear();
        check.finish("PromisesTest");
    }

    private static void newObject() {
        empty("a new object", new EnumRules());
    }

    private static void empty(String what, EnumRules x) {
        for (int k = 0; k <= 4; k++) {
            check.due(what + " count " + k, x.count(k), 0);
        }
        check.due(what + " cause", x.cause(), 0);
        check.due(what + " fault(0)", x.fault(0), 0);
        check.due(what + " fault(1)", x.fault(1), NONE);
        check.due(what + " trace", x.trace(0), NONE);
        check.due(what + " told", x.told(0, 0), UNKNOWN);
        check.due(what + " told", x.told(0, 9), UNKNOWN);
        check.due(what + " hasBody", x.hasBody(0, 0), UNKNOWN);
        check.due(what + " value", x.value(0, 0), UNKNOWN);
        check.due(what + " call", x.call(0, 0, 0), UNKNOWN);
        check.due(what + " field", x.field(0, 0), UNKNOWN);
        check.due(what + " compare", x.compare(0, 0, 0, 0), UNKNOWN);
        check.due(what + " values", x.values(0), UNKNOWN);
        check.due(what + " named", x.named(0), UNKNOWN);
        check.due(what + " swap", x.swap(0, 0), OUTSIDE);
        check.due(what + " count 4", x.count(4), 0);
        check.due(what + " hand", x.hand(0), 0);
        check.due(what + " cause of hand", x.cause(), 4);
    }

    private static void feed() {
        EnumRules x = new EnumRules();
        for (int k = 1; k <= 99; k++) {
            check.due("feed", x.feed(0x20202020, 0x20202020, 0x20202020, 0x20202020, 0x0a0a0a0a), 20 * k);
        }
        check.due("end", x.end(1979), 1979);
        check.due("feed to 1999", x.feed(-1, -1, -1, -1, -1), 1999);
        check.due("feed beyond", x.feed(0, 0, 0, 0, 0), ROOM);
        check.due("count(3)", x.count(3), 1999);
        check.due("end", x.end(1981), 1981);
        check.due("feed beyond by one", x.feed(0, 0, 0, 0, 0), ROOM);
        check.due("end", x.end(1980), 1980);
        check.due("feed to the last", x.feed(0x656e756d, 0x20417b7d, 0x656e756d, 0x20427b7d, 0x20202020), 2000);
        check.due("feed of a full one", x.feed(0, 0, 0, 0, 0), ROOM);
        check.due("load of a full one", x.load(), -11);
        check.due("what was behind the kept bytes is gone, byte 1979 is not", x.fault(1), 1979);
        check.due("feed", x.feed(0x656e756d, 0x20417b7d, 0x656e756d, 0x20427b58, 0x7d0a2020), 20);
        check.due("highest first", x.load(), 2);
        check.due("in their order", x.told(1, 0), 1);
    }

    private static void end() {
        EnumRules x = new EnumRules();
        check.due("end(0)", x.end(0), 0);
        check.due("end(1)", x.end(1), OUTSIDE);
        Check.tape(x, "enum A{X}");
        check.due("end(10)", x.end(10), OUTSIDE);
        check.due("end(-1)", x.end(-1), OUTSIDE);
        check.due("end(max)", x.end(Integer.MAX_VALUE), OUTSIDE);
        check.due("count(3)", x.count(3), 9);
        check.due("end(9)", x.end(9), 9);
        check.due("end(8)", x.end(8), 8);
        check.due("load of the cut one", x.load(), -11);
        check.due("fault(1)", x.fault(1), 8);
    }

    private static void load() {
        EnumRules x = Check.loaded(TWO);
        check.due("count(0)", x.count(0), 2);
        check.due("tape is empty", x.count(3), 0);
        x.values(1);
        check.due("trace before", x.count(1), 8);
        check.due("faulty load", Check.load(x, "enum A{X"), -11);
        check.due("tape is empty after a fault", x.count(3), 0);
        check.due("enums stay", x.count(0), 2);
        check.due("trace stays", x.count(1), 8);
        check.due("hand stays", x.hand(1), 14);
        check.due("state stays", x.told(1, 4), 1);
        check.due("name of the old text", Check.named(x, 1, "Q"), 1);
        check.due("load of another", Check.load(x, GONE), 3);
        check.due("trace is empty", x.count(1), 0);
        check.due("hand is empty", x.count(2), 0);
        check.due("nothing is started", x.told(0, 4), 0);
        check.due("load of nothing", x.load(), 0);
        check.due("no enums", x.count(0), 0);
        check.due("nothing known", x.value(0, 0), UNKNOWN);
        for (int k = 0; k < 20; k++) {
            check.due("load again", Check.load(x, k % 2 == 0 ? TWO : GONE), k % 2 == 0 ? 2 : 3);
            check.due("value again", x.value(0, 0), k % 2 == 0 ? 13 : 0);
        }
    }

    private static void fault() {
        EnumRules x = Check.loaded(TWO);
        check.due("fault(0)", x.fault(0), 0);
        check.due("fault(1)", x.fault(1), NONE);
        Check.load(x, "enum A{X,X}");
        check.due("fault(0)", x.fault(0), 2);
        check.due("fault(1)", x.fault(1), 9);
        x.value(0, 0);
        check.due("fault(0) stays", x.fault(0), 2);
        check.due("fault(-1)", x.fault(-1), OUTSIDE);
        check.due("fault(2)", x.fault(2), OUTSIDE);
        Check.load(x, "#");
        check.due("place 0", x.fault(1), 0);
        x.load();
        check.due("fault(0) of the latest", x.fault(0), 0);
        check.due("fault(1) of the latest", x.fault(1), NONE);
    }

    private static void cause() {
        EnumRules x = Check.loaded(GONE);
        check.due("at first", x.cause(), 0);
        x.hand(0);
        check.due("hand", x.cause(), 4);
        x.told(0, 0);
        x.hasBody(0, 0);
        x.swap(0, 0);
        x.count(4);
        x.trace(0);
        x.end(0);
        x.load();
        check.due("others leave it", x.cause(), 4);
        Check.load(x, GONE);
        x.value(9, 0);
        x.call(0, 0, 0);
        x.field(0, 0);
        x.compare(0, 0, 0, 1);
        x.values(-1);
        x.named(3);
        check.due("a code leaves it", x.cause(), 4);
        check.due("value", x.value(2, 0), 0);
        check.due("none", x.cause(), 0);
        x.compare(2, 0, 0, 0);
        check.due("arithmetic", x.cause(), 2);
        x.compare(0, 0, 2, 0);
        check.due("gone", x.cause(), 6);
        x.field(1, 0);
        check.due("const", x.cause(), 0);
        x.field(1, 1);
        check.due("gone by field", x.cause(), 6);
        x.values(2);
        check.due("values", x.cause(), 0);
        x.named(2);
        check.due("null", x.cause(), 1);
    }

    private static void told() {
        EnumRules x = Check.loaded("enum A{X(1){a=1;},Y{a=2;};abstract a;def b=1;def c=2;"
            + "field f=1;const k=2;field g=3;field h=4;const l=1;}enum B{;field f=1/0;}");
        int[] want = {2, 3, 3, 2, 0};
        for (int k = 0; k < 5; k++) {
            check.due("told(0, " + k + ")", x.told(0, k), want[k]);
            check.due("told(2, " + k + ")", x.told(2, k), UNKNOWN);
        }
        check.due("told(0, 5)", x.told(0, 5), OUTSIDE);
        check.due("told(0, -1)", x.told(0, -1), OUTSIDE);
        for (int e : WRONG) {
            check.due("told(" + e + ", 0)", x.told(e, 0), UNKNOWN);
            check.due("told(" + e + ", 5)", x.told(e, 5), UNKNOWN);
            check.due("told(0, " + e + ")", x.told(0, e), OUTSIDE);
        }
        check.due("it does not start", x.count(1), 0);
        x.value(0, 1);
        x.values(1);
        check.due("done", x.told(0, 4), 1);
        check.due("failed", x.told(1, 4), 2);
        check.due("constants of none", x.told(1, 0), 0);
    }

    private static void hasBody() {
        EnumRules x = Check.loaded("enum A{X,Y{},Z{m=1;},W(3),V(3){};def m=0;}enum B{P{}}");
        int[] want = {0, 1, 1, 0, 1};
        for (int c = 0; c < 5; c++) {
            check.due("hasBody(0, " + c + ")", x.hasBody(0, c), want[c]);
        }
        check.due("hasBody(0, 5)", x.hasBody(0, 5), UNKNOWN);
        check.due("hasBody(1, 1)", x.hasBody(1, 1), UNKNOWN);
        check.due("hasBody(2, 0)", x.hasBody(2, 0), UNKNOWN);
        for (int k : WRONG) {
            check.due("hasBody(0, " + k + ")", x.hasBody(0, k), UNKNOWN);
            check.due("hasBody(" + k + ", 0)", x.hasBody(k, 0), UNKNOWN);
        }
        check.due("it does not start", x.count(1), 0);
        Check.load(x, "enum A{X,Y,Z}");
        check.due("not the body of another text", x.hasBody(0, 1), 0);
    }

    private static void value() {
        EnumRules x = Check.loaded("enum A{X(5),Y,Z(7);maker=arg*10+place;}enum B{X,Y}enum C{X;maker=-(1000000*1+1);}");
        check.due("X", x.value(0, 0), 50);
        check.due("Y", x.value(0, 1), 1);
        check.due("Z", x.value(0, 2), 72);
        check.due("no maker", x.value(1, 1), 0);
        check.due("any number", x.value(2, 0), UNKNOWN);
        check.due("and no cause", x.cause(), 0);
        check.due("value(0, 3)", x.value(0, 3), UNKNOWN);
        for (int k : WRONG) {
            check.due("value(0, " + k + ")", x.value(0, k), UNKNOWN);
            check.due("value(" + k + ", 0)", x.value(k, 0), UNKNOWN);
        }
        exps();
        EnumRules y = Check.loaded(GONE);
        check.due("gone", y.value(1, 0), 0);
        check.due("by arithmetic", y.cause(), 2);
        check.due("the one that was made is gone, too", y.value(1, 0), 0);
        check.due("by gone", y.cause(), 6);
        check.due("who wants it", y.value(0, 0), 0);
        check.due("by gone", y.cause(), 6);
        check.due("has failed, too", y.told(0, 4), 2);
        check.due("another", y.value(2, 0), 0);
        check.due("does not fail", y.cause(), 0);
        check.due("fails", y.count(4), 3);
    }

    private static void exps() {
        worth("1+2*3", 7);
        worth("(1+2)*3", 9);
        worth("10-3-2", 5);
        worth("100/7/2", 7);
        worth("7/2*2", 6);
        worth("2*7/2", 7);
        worth("-7/2", -3);
        worth("7/-2", -3);
        worth("-(7/2)", -3);
        worth("0-7/2", -3);
        worth("- -7", 7);
        worth("-(1-(2-(3-4)))", 2);
        worth("1-2*3+4*5-6/2", 12);
        worth("2*(3+4*(5-6))*-1", 2);
        worth("8-(4-(2-1))*2", 2);
        worth("-2*-3--4", 10);
        worth("999999999*999999999", 999999999 * 999999999);
        worth("999999999+999999999+999999999", 999999999 + 999999999 + 999999999);
        worth("(0-2147483*1000-648)/-1", Integer.MIN_VALUE);
        worth("-(0-2147483*1000-648)", Integer.MIN_VALUE);
        worth("000000012", 12);
        worth("(1+2*".repeat(8) + "3" + ")".repeat(8), 1023);
        worth("9-2*" + "(9-2*".repeat(8) + "1" + ")".repeat(8), 1027);
        fails("1/0", 2);
        fails("0/0", 2);
        fails("1/(2-2)*0", 2);
        fails("1/arg", 2);
        fails("A.X", 1);
    }

    private static void worth(String exp, int want) {
        EnumRules x = Check.loaded("enum A{X;maker=" + exp + ";}");
        check.due(exp, x.value(0, 0), want);
        check.due("cause of " + exp, x.cause(), 0);
        EnumRules y = Check.loaded("enum A{X{m=" + exp + ";};abstract m;field f=" + exp + ";}");
        check.due(exp + " as a member", y.call(0, 0, 0), want);
        check.due(exp + " as a field", y.field(0, 0), want);
    }

    private static void fails(String exp, int cause) {
        EnumRules x = Check.loaded("enum A{X;maker=" + exp + ";}");
        check.due(exp, x.value(0, 0), 0);
        check.due("cause of " + exp, x.cause(), cause);
        check.traced("trace of " + exp, x, "0 200");
    }

    private static void call() {
        EnumRules x = Check.loaded("enum A{X(2){b=val+f;a=1/k;},Y(3){a=place;c=1/(val-3);},Z{a=B.Q;};"
            + "abstract a;def b=val*10+place;def c=7;const k=0;field f=100;maker=arg;}enum B{P,Q;maker=5+place;}");
        check.due("X.a", x.call(0, 0, 0), 0);
        check.due("by a /", x.cause(), 2);
        check.due("it is not gone by that", x.told(0, 4), 1);
        check.due("X.b", x.call(0, 0, 1), 102);
        check.due("X.c", x.call(0, 0, 2), 7);
        check.due("Y.a", x.call(0, 1, 0), 1);
        check.due("Y.b", x.call(0, 1, 1), 31);
        check.due("Y.c", x.call(0, 1, 2), 0);
        check.due("by a /", x.cause(), 2);
        check.due("B is not started", x.told(1, 4), 0);
        check.due("Z.a", x.call(0, 2, 0), 6);
        check.due("B is done", x.told(1, 4), 1);
        check.due("Z.b", x.call(0, 2, 1), 2);
        check.traced("call", x, "0 1 2 3 100 1000 1001 1002 1100");
        check.due("call(0, 0, 3)", x.call(0, 0, 3), UNKNOWN);
        check.due("call(0, 3, 0)", x.call(0, 3, 0), UNKNOWN);
        check.due("call(1, 0, 0)", x.call(1, 0, 0), UNKNOWN);
        for (int k : WRONG) {
            check.due("call(0, 0, " + k + ")", x.call(0, 0, k), UNKNOWN);
            check.due("call(0, " + k + ", 0)", x.call(0, k, 0), UNKNOWN);
            check.due("call(" + k + ", 0, 0)", x.call(k, 0, 0), UNKNOWN);
        }
        EnumRules y = Check.loaded("enum A{X;def m=B.X+C.X;def n=4;}enum B{X;maker=D.X;}enum C{X}enum D{X;maker=1/0;}");
        check.due("of what fails", y.call(0, 0, 0), 0);
        check.due("by arithmetic", y.cause(), 2);
        check.traced("failed call", y, "0 1 100 1000 3000 3200 1200");
        check.due("of what is gone", y.call(0, 0, 0), 0);
        check.due("by gone", y.cause(), 6);
        check.due("another member", y.call(0, 0, 1), 4);
        EnumRules z = Check.loaded("enum A{X;def m=1;maker=1/0;}");
        check.due("of a gone one", z.call(0, 0, 0), 0);
        check.due("arithmetic", z.cause(), 2);
        check.due("of a gone one again", z.call(0, 0, 0), 0);
        check.due("gone", z.cause(), 6);
    }

    private static void field() {
        EnumRules x = Check.loaded("enum A{X(3);const k=9;field f=g+k+h+A.X;field g=f+1;const h=20;field i=i+g;maker=arg;}");
        check.due("k", x.field(0, 0), 9);
        check.due("h", x.field(0, 3), 20);
        check.due("not started by const", x.told(0, 4), 0);
        check.due("f before g is set", x.field(0, 1), 32);
        check.due("started by field", x.told(0, 4), 1);
        check.due("g", x.field(0, 2), 33);
        check.due("i", x.field(0, 4), 33);
        check.due("field(0, 5)", x.field(0, 5), UNKNOWN);
        for (int k : WRONG) {
            check.due("field(0, " + k + ")", x.field(0, k), UNKNOWN);
            check.due("field(" + k + ", 0)", x.field(k, 0), UNKNOWN);
        }
        EnumRules y = Check.loaded(GONE);
        check.due("f of B", y.field(1, 1), 0);
        check.due("fails as it is", y.cause(), 2);
        check.due("k of B that is gone", y.field(1, 0), 3);
        check.due("does not fail", y.cause(), 0);
        check.due("f of B again", y.field(1, 1), 0);
        check.due("gone", y.cause(), 6);
        EnumRules z = Check.loaded("enum A{X;field f=1;field g=f/0;}");
        check.due("f of what failed later", z.field(0, 0), 0);
        check.due("arithmetic", z.cause(), 2);
        check.traced("failed field", z, "0 1 200");
    }

    private static void compare() {
        EnumRules x = Check.loaded(TWO);
        check.due("ahead", x.compare(0, 0, 0, 1), 1);
        check.traced("only the one", x, "0 1 2 100");
        check.due("same", x.compare(0, 1, 0, 1), 2);
        check.due("behind", x.compare(0, 1, 0, 0), 3);
        check.due("unlike", x.compare(0, 0, 1, 0), 0);
        check.due("cast", x.cause(), 5);
        check.due("the other has started", x.told(1, 4), 1);
        EnumRules y = Check.loaded("enum A{X}enum B{X}");
        check.due("unlike", y.compare(1, 0, 0, 0), 0);
        check.traced("the first one ahead", y, "1000 1001 1100 0 1 100");
        EnumRules z = Check.loaded(GONE);
        check.due("the first one fails", z.compare(1, 0, 2, 0), 0);
        check.due("arithmetic", z.cause(), 2);
        check.due("the second one is not started", z.told(2, 4), 0);
        check.due("the second one fails", z.compare(2, 0, 1, 1), 0);
        check.due("gone is ahead of cast", z.cause(), 6);
        check.due("the first one is started", z.told(2, 4), 1);
        check.due("no constant", x.compare(0, 2, 0, 0), UNKNOWN);
        check.due("no constant", x.compare(0, 0, 0, 2), UNKNOWN);
        check.due("no enum", x.compare(2, 0, 0, 0), UNKNOWN);
        check.due("no enum", x.compare(0, 0, 2, 0), UNKNOWN);
        for (int k : WRONG) {
            check.due("compare " + k, x.compare(k, 0, 0, 0), UNKNOWN);
            check.due("compare " + k, x.compare(0, k, 0, 0), UNKNOWN);
            check.due("compare " + k, x.compare(0, 0, k, 0), UNKNOWN);
            check.due("compare " + k, x.compare(0, 0, 0, k), UNKNOWN);
        }
    }

    private static void values() {
        EnumRules x = Check.loaded(TWO + "enum G{}enum H{;field f=1/0;}");
        check.due("values(1)", x.values(1), 2);
        check.traced("values", x, "1000 0 1 2 100 1001 1002 1100");
        check.due("places", x.count(2), 2);
        check.due("hand(1)", x.hand(1), 14);
        check.due("swap", x.swap(0, 1), 1);
        check.due("values(1) anew", x.values(1), 2);
        check.due("is fresh", x.hand(1), 14);
        check.due("fails", x.values(3), 0);
        check.due("arithmetic", x.cause(), 2);
        check.due("the hand stays", x.hand(0), 13);
        check.due("unknown", x.values(4), UNKNOWN);
        check.due("the hand stays", x.count(2), 2);
        check.due("of none", x.values(2), 0);
        check.due("no cause", x.cause(), 0);
        check.due("no places", x.count(2), 0);
        for (int k : WRONG) {
            check.due("values(" + k + ")", x.values(k), UNKNOWN);
        }
        EnumRules y = Check.loaded("enum A{A,B,C,D,E,F,G,H,I,J,K,L;maker=place*place;}");
        check.due("twelve", y.values(0), 12);
        for (int k = 0; k < 12; k++) {
            check.due("hand(" + k + ")", y.hand(k), k * k);
        }
        check.due("hand(12)", y.hand(12), 0);
        check.due("index", y.cause(), 4);
    }

    private static void swap() {
        EnumRules x = Check.loaded("enum A{X,Y,Z;maker=place+1;}");
        check.due("empty", x.swap(0, 0), OUTSIDE);
        x.values(0);
        check.due("swap(0, 2)", x.swap(0, 2), 1);
        check.due("swap(1, 1)", x.swap(1, 1), 1);
        check.due("hand(0)", x.hand(0), 3);
        check.due("hand(1)", x.hand(1), 2);
        check.due("hand(2)", x.hand(2), 1);
        check.due("swap(0, 1)", x.swap(0, 1), 1);
        check.due("hand(0)", x.hand(0), 2);
        check.due("the constants are not touched", x.value(0, 0), 1);
        check.due("nor their places", x.compare(0, 0, 0, 2), 1);
        check.due("nor their names", Check.named(x, 0, "X"), 0);
        check.due("swap(0, 3)", x.swap(0, 3), OUTSIDE);
        check.due("swap(3, 0)", x.swap(3, 0), OUTSIDE);
        for (int k : WRONG) {
            check.due("swap(0, " + k + ")", x.swap(0, k), OUTSIDE);
            check.due("swap(" + k + ", 0)", x.swap(k, 0), OUTSIDE);
        }
        check.due("hand(0) stays", x.hand(0), 2);
        x.values(0);
        check.due("fresh", x.hand(0), 1);
    }

    private static void hand() {
        EnumRules x = Check.loaded(TWO);
        check.due("empty", x.hand(0), 0);
        check.due("index", x.cause(), 4);
        x.values(0);
        check.due("hand(0)", x.hand(0), 13);
        check.due("none", x.cause(), 0);
        check.due("hand(1)", x.hand(1), 15);
        for (int k : new int[] {-1, 2, Integer.MIN_VALUE, Integer.MAX_VALUE}) {
            int failed = x.count(4);
            check.due("hand(" + k + ")", x.hand(k), 0);
            check.due("index", x.cause(), 4);
            check.due("failed", x.count(4), failed + 1);
        }
        Check.load(x, GONE);
        check.due("after load", x.hand(0), 0);
        check.due("index", x.cause(), 4);
    }

    private static void named() {
        EnumRules x = Check.loaded("enum A{X,XY,Y,abcdefghijkl,X1;def m=1;const k=1;}enum B{Z;maker=1/0;}enum C{P;maker=D.P;}enum D{P}");
        check.due("XY", Check.named(x, 0, "XY"), 1);
        check.traced("it starts", x, "0 1 2 3 4 5 100");
        check.due("tape is empty", x.count(3), 0);
        check.due("X", Check.named(x, 0, "X"), 0);
        check.due("none", x.cause(), 0);
        check.due("X1", Check.named(x, 0, "X1"), 4);
        check.due("Y", Check.named(x, 0, "Y"), 2);
        check.due("of twelve", Check.named(x, 0, "abcdefghijkl"), 3);
        for (String other : new String[] {"x", "X2", "X ", " X", "X\n", "XYZ", "m", "k", "A", "abcdefghijk", "abcdefghijklm", "1", "X,", "enum", "Z"}) {
            check.due(other, Check.named(x, 0, other), 0);
            check.due("argument", x.cause(), 3);
            check.due("tape is empty", x.count(3), 0);
        }
        check.due("empty", x.named(0), 0);
        check.due("null", x.cause(), 1);
        Check.tape(x, "Y");
        check.due("unknown", x.named(4), UNKNOWN);
        for (int k : WRONG) {
            check.due("named(" + k + ")", x.named(k), UNKNOWN);
        }
        check.due("the tape stays", x.count(3), 1);
        check.due("the name stays", x.named(0), 2);
        check.due("of a gone one", Check.named(x, 1, "Z"), 0);
        check.due("arithmetic", x.cause(), 2);
        check.due("tape is empty", x.count(3), 0);
        check.due("empty, of a gone one", x.named(1), 0);
        check.due("gone", x.cause(), 6);
        check.due("empty, it starts first", x.named(2), 0);
        check.due("null", x.cause(), 1);
        check.due("started", x.told(3, 4), 1);
    }

    private static void trace() {
        EnumRules x = Check.loaded(TWO);
        check.due("empty", x.trace(0), NONE);
        x.value(1, 0);
        check.traced("in order", x, "1000 0 1 2 100 1001 1002 1100");
        check.due("trace(-1)", x.trace(-1), NONE);
        check.due("trace(8)", x.trace(8), NONE);
        check.due("trace(max)", x.trace(Integer.MAX_VALUE), NONE);
        check.due("trace(min)", x.trace(Integer.MIN_VALUE), NONE);
        x.value(0, 0);
        check.due("not started anew", x.count(1), 8);

        EnumRules round = Check.loaded("enum A{X,Y,Z;maker=B.P*place+1;}enum B{P,Q;maker=3;field f=A.X;}");
        check.due("B wants A while it is in work, before X", round.value(0, 0), 0);
        check.due("null", round.cause(), 1);
        check.traced("all fail", round, "0 1000 1001 1002 1200 200");
        EnumRules good = Check.loaded("enum A{X,Y,Z;maker=place*10;}enum B{P;maker=C.Q;}"
            + "enum C{Q,R;maker=D.S+place;field f=B.P;}enum D{S;}");
        check.due("a field wants what is not made", good.value(1, 0), 0);
        check.due("null", good.cause(), 1);
        check.traced("inner ones that are done stay", good, "1000 2000 3000 3001 3100 2001 2002 2200 1200");
        check.due("D is done", good.told(3, 4), 1);
        check.due("A is not started", good.told(0, 4), 0);
        EnumRules back = Check.loaded("enum A{X(4);maker=arg;field f=B.P;field g=f;}enum B{P,Q;maker=A.X+place;}");
        check.due("a made one while in work", back.field(0, 1), 4);
        check.traced("B in the midst of A", back, "0 1 1000 1001 1002 1100 100");
        EnumRules itself = Check.loaded("enum A{X(1),Y(2),Z(3);maker=arg+place*1;field f=A.Z*A.X;}");
        check.due("of itself", itself.field(0, 0), 5);
        EnumRules left = Check.loaded("enum A{X;maker=B.X+C.X*D.X-1/B.X+E.X;}enum B{X}enum C{X}enum D{X}enum E{X}");
        check.due("from the left", left.value(0, 0), 0);
        check.due("arithmetic", left.cause(), 2);
        check.traced("from the left", left, "0 1000 1001 1100 2000 2001 2100 3000 3001 3100 200");
        deepChain();
    }

    private static void deepChain() {
        StringBuilder text = new StringBuilder();
        for (int e = 0; e < 8; e++) {
            String next = (char) ('A' + (e + 1) % 8) + ".L";
            text.append("enum ").append((char) ('A' + e)).append("{A,B,C,D,E,F,G,H,I,J,K,L;");
            text.append(e < 7 ? "maker=1+(2*(3-(4+(5*(6-(7+(8*" + next + ")))))));}" : "field f=A.A;}");
        }
        EnumRules x = Check.loaded(text.toString());
        check.due("eight in work", x.value(0, 0), 0);
        check.due("null", x.cause(), 1);
        check.due("rows", x.count(1), 8 + 12 + 8);
        check.due("last began", x.trace(7), 7000);
        check.due("innermost fails first", x.trace(20), 7200);
        check.due("outermost fails last", x.trace(27), 200);
        EnumRules y = Check.loaded(text.toString().replace("field f=A.A", "field f=1"));
        check.due("eight in work and done", y.value(0, 11), chain(7));
        check.due("rows", y.count(1), 8 * 14);
        check.due("last", y.trace(111), 100);
    }

    private static int chain(int links) {
        int val = 0;
        for (int k = 0; k < links; k++) {
            val = 1 + (2 * (3 - (4 + (5 * (6 - (7 + (8 * val)))))));
        }
        return val;
    }

    private static void count() {
        EnumRules x = Check.loaded(GONE);
        x.values(2);
        x.value(1, 0);
        x.value(1, 0);
        x.value(9, 0);
        x.hand(7);
        Check.tape(x, "abc");
        int[] want = {3, 6, 1, 3, 3};
        for (int k = 0; k < 5; k++) {
            check.due("count(" + k + ")", x.count(k), want[k]);
        }
        for (int k : new int[] {-1, 5, Integer.MAX_VALUE, Integer.MIN_VALUE}) {
            check.due("count(" + k + ")", x.count(k), OUTSIDE);
        }
        Check.load(x, TWO);
        check.due("failed since the beginning", x.count(4), 3);
        Check.load(x, "#");
        check.due("a fault is no failing", x.count(4), 3);
    }

    private static void clear() {
        EnumRules x = new EnumRules();
        check.due("of nothing", x.clear(), 0);
        Check.load(x, GONE);
        x.values(2);
        x.value(0, 0);
        Check.load(x, "#");
        Check.tape(x, "some");
        check.due("clear", x.clear(), 3);
        empty("a cleared one", x);
        check.due("clear again", x.clear(), 0);
        check.due("load after", Check.load(x, TWO), 2);
        check.due("value after", x.value(1, 1), 14);
        check.due("count(4) after", x.count(4), 0);
        check.due("named after", Check.named(x, 1, "Q"), 1);
        check.due("clear", x.clear(), 2);
    }
}
