/** The sentences of "2 STARTS" that name a boundary case, a method for each. */
public final class StartsBoundsTest {
    private static final Check check = new Check();

    public static void main(String[] args) {
        noneIsStarted();
        startsByCalls();
        startsByNames();
        wantedOnlyWhenWorkedOut();
        madeInOrder();
        emptyEnum();
        withoutMaker();
        withoutNumber();
        fieldsInOrder();
        notStartedAnew();
        notMadeYet();
        madeAlready();
        notSetYet();
        allInWorkFail();
        doneOnesStay();
        failsInFields();
        goneForCalls();
        goneForNames();
        goneForEver();
        starsAhead();
        fromTheLeft();
        towardZero();
        byZero();
        namesAlone();
        valAndPlace();
        traceRows();
        traceIsFullest();
        eightInWork();
        check.finish("StartsBoundsTest");
    }

    private static void states(String what, EnumRules x, int... want) {
        for (int e = 0; e < want.length; e++) {
            check.due(what + ": told(" + e + ", 4)", x.told(e, 4), want[e]);
        }
    }

    private static void noneIsStarted() {
        check.says("Loaded, no ENUM is STARTED.");
        EnumRules x = Check.loaded(Check.times("enum A#{X;maker=A0.X;field f=1/0;}", 8));
        states("loaded", x, 0, 0, 0, 0, 0, 0, 0, 0);
        check.traced("loaded", x, "");
        x.value(3, 0);
        Check.load(x, "enum A{X}enum B{X;maker=1/0;}");
        states("loaded anew", x, 0, 0);
        x.value(0, 0);
        x.value(1, 0);
        states("used", x, 1, 2);
        Check.load(x, "enum A{X}enum B{X;maker=1/0;}");
        states("the same text once more", x, 0, 0);
        check.traced("the same text once more", x, "");
    }

    private static void startsByCalls() {
        check.says("One STARTS, when it is wanted: by calls (as told)");
        startsBy("value", x -> x.value(0, 0), "0 1 100");
        startsBy("call", x -> x.call(0, 0, 0), "0 1 100");
        startsBy("field by 'field'", x -> x.field(0, 1), "0 1 100");
        startsBy("compare", x -> x.compare(0, 0, 0, 0), "0 1 100");
        startsBy("values", x -> x.values(0), "0 1 100");
        startsBy("named", x -> Check.named(x, 0, "X"), "0 1 100");
        startsBy("named of none such", x -> Check.named(x, 0, "Y"), "0 1 100");
        startsBy("named by an empty tape", x -> Check.named(x, 0, ""), "0 1 100");
        startsBy("field by 'const'", x -> x.field(0, 0), "");
        startsBy("told", x -> x.told(0, 4), "");
        startsBy("hasBody", x -> x.hasBody(0, 0), "");
        startsBy("hand", x -> x.hand(0), "");
        startsBy("swap", x -> x.swap(0, 0), "");
        startsBy("count", x -> x.count(0), "");
        startsBy("trace", x -> x.trace(0), "");
    }

    private static void startsBy(String what, Twins.Call call, String trace) {
        EnumRules x = Check.loaded("enum A{X;def m=1;const k=1;field f=2;}enum B{X}");
        call.on(x);
        check.traced(what, x, trace);
        call.on(x);
        check.traced(what + " again", x, trace);
    }

    private static void startsByNames() {
        check.says("by NAME.NAME of another one (or of itself) in what is worked out.");
        EnumRules maker = Check.loaded("enum A{X;maker=B.Y;}enum B{X,Y}");
        maker.value(0, 0);
        check.traced("maker", maker, "0 1000 1001 1002 1100 1 100");
        EnumRules field = Check.loaded("enum A{X;field f=B.Y;}enum B{X,Y}");
        field.value(0, 0);
        check.traced("field", field, "0 1 1000 1001 1002 1100 100");
        EnumRules member = Check.loaded("enum A{X{m=B.X;},Y;def m=C.X;}enum B{X}enum C{X}");
        member.call(0, 0, 0);
        check.traced("give", member, "0 1 2 100 1000 1001 1100");
        member.call(0, 1, 0);
        check.traced("def", member, "0 1 2 100 1000 1001 1100 2000 2001 2100");
        EnumRules itself = Check.loaded("enum A{X(3);maker=arg;field f=A.X;def m=A.X;}");
        check.due("field of itself", itself.field(0, 0), 3);
        check.due("def of itself", itself.call(0, 0, 0), 3);
        check.traced("itself", itself, "0 1 100");
    }

    private static void wantedOnlyWhenWorkedOut() {
        check.says("by NAME.NAME of another one (or of itself) in what is worked out.");
        EnumRules x = Check.loaded("enum A{X{m=B.X;};def m=C.X;def n=D.X;}enum B{X}enum C{X}enum D{X}");
        x.value(0, 0);
        states("no member is worked out", x, 1, 0, 0, 0);
        x.call(0, 0, 0);
        states("the give, not the def", x, 1, 1, 0, 0);
        EnumRules y = Check.loaded("enum A{;maker=B.X;}enum B{X}");
        check.due("a maker without constants", y.values(0), 0);
        states("a maker without constants", y, 1, 0);
        EnumRules z = Check.loaded("enum A{X;maker=1/0+B.X;}enum B{X}enum C{X;maker=B.X/0+D.X;}enum D{X}");
        z.value(0, 0);
        states("what stands behind a failure", z, 2, 0, 0, 0);
        z.value(2, 0);
        states("what stands ahead of a failure", z, 2, 1, 2, 0);
    }

    private static void madeInOrder() {
        check.says("While it is IN WORK, its CONSTANTS are made in order");
        EnumRules x = Check.loaded("enum A{a,b,c,d,e,f,g,h,i,j,k,l;maker=place;}");
        x.value(0, 11);
        check.traced("twelve", x, "0 1 2 3 4 5 6 7 8 9 10 11 12 100");
        EnumRules last = Check.loaded("enum A{X(1),Y(1),Z;maker=1/arg;}");
        last.value(0, 0);
        check.traced("the last one fails", last, "0 1 2 200");
        EnumRules first = Check.loaded("enum A{X,Y(1),Z(1);maker=1/arg;}");
        first.value(0, 1);
        check.traced("the first one fails", first, "0 200");
        EnumRules one = Check.loaded("enum A{X}");
        one.values(0);
        check.traced("one", one, "0 1 100");
    }

    private static void emptyEnum() {
        check.says("Then it is DONE.");
        EnumRules x = Check.loaded("enum A{}enum B{;field f=6;maker=1/0;}enum C{;field f=1/0;}");
        check.due("values of none", x.values(0), 0);
        check.due("cause", x.cause(), 0);
        check.due("field of no constants", x.field(1, 0), 6);
        check.due("cause", x.cause(), 0);
        check.due("field that fails", x.field(2, 0), 0);
        check.due("cause", x.cause(), 2);
        check.traced("none is made", x, "0 100 1000 1100 2000 2200");
        states("without constants", x, 1, 1, 2);
    }

    private static void withoutMaker() {
        check.says("the VAL of each by the maker (0 without one)");
        EnumRules x = Check.loaded("enum A{X(5),Y(999999999){m=val;};def m=val+1;}enum B{X;maker=7;}enum C{X;maker=0;}");
        check.due("value", x.value(0, 0), 0);
        check.due("value", x.value(0, 1), 0);
        check.due("val in a give", x.call(0, 1, 0), 0);
        check.due("val in a def", x.call(0, 0, 0), 1);
        check.due("with one", x.value(1, 0), 7);
        check.due("with one of 0", x.value(2, 0), 0);
        check.due("cause", x.cause(), 0);
    }

    private static void withoutNumber() {
        check.says("arg being its NUMBER (0 without)");
        EnumRules x = Check.loaded("enum A{V(0),W,X(1),Y{},Z(999999999){};maker=arg;}enum B{X;maker=1/arg;}");
        int[] want = {0, 0, 1, 0, 999999999};
        for (int c = 0; c < want.length; c++) {
            check.due("value(0, " + c + ")", x.value(0, c), want[c]);
        }
        check.fails("1/arg without a number", x, 0, x.value(1, 0), 2);
        Check.load(x, "enum A{V(8),W(8),X(8)}");
        Check.load(x, "enum A{V,W(3),X;maker=arg;}");
        check.due("not the number of another text", x.value(0, 2), 0);
    }

    private static void fieldsInOrder() {
        check.says("then its FIELDS by 'field' are set in order.");
        EnumRules x = Check.loaded("enum A{X(2);field a=A.X+k;field b=a*10;field c=b+a;const k=5;field d=c+b;field e=d+a;maker=arg;}");
        int[] want = {7, 70, 77, 5, 147, 154};
        for (int f = 0; f < want.length; f++) {
            check.due("field(0, " + f + ")", x.field(0, f), want[f]);
        }
        EnumRules y = Check.loaded("enum A{X;field a=B.X;const k=1;field b=C.X;}enum B{X}enum C{X}");
        y.values(0);
        check.traced("in order", y, "0 1 1000 1001 1100 2000 2001 2100 100");
    }

    private static void notStartedAnew() {
        check.says("One that is wanted again while it is IN WORK is not STARTED anew");
        EnumRules x = Check.loaded("enum A{X(4),Y(5);maker=arg;field f=B.P+B.Q;}enum B{P,Q;maker=A.Y-place;field g=C.R;}enum C{R;maker=A.X+B.Q;}");
        check.due("A by B, A and B by C", x.field(0, 0), 9);
        check.traced("each once", x, "0 1 2 1000 1001 1002 2000 2001 2100 1100 100");
        check.due("C", x.value(2, 0), 8);
        states("done", x, 1, 1, 1);
        check.traced("each once", x, "0 1 2 1000 1001 1002 2000 2001 2100 1100 100");
    }

    private static void notMadeYet() {
        check.says("a CONSTANT that is not made yet is NULL (VAL, compare, of it FAIL by that)");
        for (String name : new String[] {"A.X", "A.Y", "A.Z", "1+A.X*0", "-(A.Z)"}) {
            EnumRules x = Check.loaded("enum A{X,Y,Z;maker=" + name + ";}");
            check.fails("value by " + name, x, 0, x.value(0, 0), 1);
            check.traced(name, x, "0 200");
        }
        EnumRules y = Check.loaded("enum A{X;maker=B.X;}enum B{X;maker=A.X;}");
        check.fails("in a ring", y, 0, y.value(1, 0), 1);
        check.traced("in a ring", y, "1000 0 200 1200");
        EnumRules z = Check.loaded("enum A{X;maker=B.X;}enum B{X;field f=A.X;}");
        check.fails("by a field of the other", z, 0, z.value(0, 0), 1);
        check.traced("by a field of the other", z, "0 1000 1001 1200 200");
    }

    private static void madeAlready() {
        check.says("a CONSTANT that is not made yet is NULL (VAL, compare, of it FAIL by that)");
        EnumRules x = Check.loaded("enum A{X(3),Y(5);maker=arg;field f=B.P;}enum B{P,Q;maker=A.X*A.Y+place;}");
        check.due("made ones of one in work", x.field(0, 0), 15);
        check.due("cause", x.cause(), 0);
        EnumRules y = Check.loaded("enum A{X(3),Y(5);maker=arg;field f=B.P;}enum B{P,Q;maker=A.X*A.Y+place;}");
        check.fails("the other way round, A's field wants P", y, 0, y.value(1, 0), 1);
        check.traced("the other way round", y, "1000 0 1 2 200 1200");
    }

    private static void notSetYet() {
        check.says("a FIELD by 'field' that is not set yet 0.");
        EnumRules x = Check.loaded("enum A{X;field a=a+1;field b=c+10;field c=b+a+k;const k=100;field d=e;field e=d+5;}");
        int[] want = {1, 10, 111, 100, 0, 5};
        for (int f = 0; f < want.length; f++) {
            check.due("field(0, " + f + ")", x.field(0, f), want[f]);
        }
        EnumRules y = Check.loaded("enum A{X;field a=1/b;field b=1;}");
        check.fails("/ by one that is not set", y, 0, y.field(0, 1), 2);
        EnumRules z = Check.loaded("enum A{X;field a=5;field b=7;}");
        z.values(0);
        Check.load(z, "enum A{X;field a=b;field b=a;}");
        check.due("not what was set in another text", z.field(0, 0), 0);
    }

    private static void allInWorkFail() {
        check.says("What FAILS ends all that is worked out for the call: each ENUM that is IN WORK because of it has FAILED then, too.");
        EnumRules x = Check.loaded("enum A{X;maker=B.X;field f=E.X;}enum B{X,Y;maker=C.X;}enum C{X;field f=1/0;field g=E.X;}enum D{X}enum E{X}");
        check.fails("value", x, 0, x.value(0, 0), 2);
        states("three in work", x, 2, 2, 2, 0, 0);
        check.traced("the innermost first", x, "0 1000 2000 2001 2200 1200 200");
        EnumRules y = Check.loaded("enum A{X;def m=B.X+D.X;}enum B{X;maker=C.X;}enum C{X;maker=1/0;}enum D{X}");
        check.fails("call", y, 0, y.call(0, 0, 0), 2);
        states("the one that is done before is not in work", y, 1, 2, 2, 0);
        check.due("it still answers", y.value(0, 0), 0);
        check.due("cause", y.cause(), 0);
    }

    private static void doneOnesStay() {
        check.says("each ENUM that is IN WORK because of it has FAILED then, too.");
        EnumRules x = Check.loaded("enum A{X;maker=B.X/0;}enum B{X(6);maker=C.X+arg;}enum C{X(7);maker=arg;}");
        check.fails("value", x, 0, x.value(0, 0), 2);
        states("done ones stay", x, 2, 1, 1);
        check.traced("done ones stay", x, "0 1000 2000 2001 2100 1001 1100 200");
        check.due("B", x.value(1, 0), 13);
        check.due("C", x.value(2, 0), 7);
        EnumRules y = Check.loaded("enum A{X}enum B{X;maker=1/0;}enum C{X}");
        check.fails("compare", y, 0, y.compare(0, 0, 1, 0), 2);
        states("the first of a compare stays", y, 1, 2, 0);
        EnumRules z = Check.loaded("enum A{X}enum B{X;maker=1/0;}enum C{X}");
        check.fails("compare", z, 0, z.compare(1, 0, 2, 0), 2);
        states("the second of a compare is not wanted", z, 0, 2, 0);
    }

    private static void failsInFields() {
        check.says("has FAILED then, too.");
        EnumRules x = Check.loaded("enum A{X(5);maker=arg;field a=3;field b=1/0;field c=4;const k=9;def m=1;}");
        check.fails("a field set before", x, 0, x.field(0, 0), 2);
        check.fails("it again", x, 1, x.field(0, 0), 6);
        check.fails("a constant made before", x, 2, x.value(0, 0), 6);
        check.fails("a member", x, 3, x.call(0, 0, 0), 6);
        check.due("const", x.field(0, 3), 9);
        check.traced("all made, none set", x, "0 1 200");
    }

    private static void goneForCalls() {
        check.says("One that has FAILED is GONE: who wants it, FAILS by GONE.");
        EnumRules x = Check.loaded("enum G{X(5);maker=arg/0;def m=1;const k=2;field f=3;}enum C{X}");
        check.fails("value", x, 0, x.value(0, 0), 2);
        check.fails("value again", x, 1, x.value(0, 0), 6);
        check.fails("call", x, 2, x.call(0, 0, 0), 6);
        check.fails("field", x, 3, x.field(0, 1), 6);
        check.fails("compare", x, 4, x.compare(0, 0, 0, 0), 6);
        check.fails("compare of unlike ones", x, 5, x.compare(0, 0, 1, 0), 6);
        states("the second one is not wanted", x, 2, 0);
        check.fails("compare, as the second", x, 6, x.compare(1, 0, 0, 0), 6);
        states("the first one is wanted", x, 2, 1);
        check.fails("values", x, 7, x.values(0), 6);
        check.fails("named", x, 8, Check.named(x, 0, "X"), 6);
        check.fails("named by an empty tape", x, 9, x.named(0), 6);
        check.fails("named of none such", x, 10, Check.named(x, 0, "Y"), 6);
        check.traced("it does not begin anew", x, "0 200 1000 1001 1100");
    }

    private static void goneForNames() {
        check.says("One that has FAILED is GONE: who wants it, FAILS by GONE.");
        EnumRules x = Check.loaded("enum G{X;maker=1/0;}enum A{X;maker=G.X;}enum B{X;field f=A.X;}enum C{X{m=B.X;};def m=G.X;def n=4;}");
        check.fails("G", x, 0, x.value(0, 0), 2);
        check.fails("A wants G", x, 1, x.value(1, 0), 6);
        check.fails("B wants A", x, 2, x.values(2), 6);
        check.fails("a give wants B", x, 3, x.call(3, 0, 0), 6);
        states("all but C", x, 2, 2, 2, 1);
        check.due("another member", x.call(3, 0, 1), 4);
        check.traced("each began once", x, "0 200 1000 1200 2000 2001 2200 3000 3001 3100");
    }

    private static void goneForEver() {
        check.says("what fails at a start is gone for ever");
        EnumRules x = Check.loaded("enum A{X;maker=1/0;}");
        check.fails("value", x, 0, x.value(0, 0), 2);
        for (int k = 1; k <= 20; k++) {
            check.fails("value again", x, k, x.value(0, 0), 6);
        }
        check.due("load with a fault", Check.load(x, "enum A{X"), -11);
        check.fails("value after that", x, 21, x.value(0, 0), 6);
        check.due("load without a fault", Check.load(x, "enum A{X(1);maker=1/arg;}"), 1);
        check.due("value of the new one", x.value(0, 0), 1);
        check.due("cause", x.cause(), 0);
    }

    // ---- exps

    /** In a maker, a field, a def and a give. */
    private static void worth(String exp, int want) {
        EnumRules x = Check.loaded("enum A{X{n=" + exp + ";};maker=" + exp + ";field f=" + exp + ";def m=" + exp + ";abstract n;}");
        check.due("value of " + exp, x.value(0, 0), want);
        check.due("field of " + exp, x.field(0, 0), want);
        check.due("def of " + exp, x.call(0, 0, 0), want);
        check.due("give of " + exp, x.call(0, 0, 1), want);
        check.due("cause of " + exp, x.cause(), 0);
    }

    private static void starsAhead() {
        check.says("exp: * and / ahead of + and -");
        worth("1+2*3", 7);
        worth("2*3+1", 7);
        worth("20-8/4", 18);
        worth("8/4-20", -18);
        worth("1+2*3-4/2+5", 10);
        worth("(1+2)*3", 9);
        worth("2*(3+1)", 8);
        worth("-2+3", 1);
        worth("-2*3", -6);
        worth("-(2+3)", -5);
        worth("2--3*4", 14);
        worth("1" + Check.times("+2*3", 10), 61);
    }

    private static void fromTheLeft() {
        check.says("* and / ahead of + and -, from the left");
        worth("10-4-3", 3);
        worth("10-4+3", 9);
        worth("10-(4-3)", 9);
        worth("100/10/5", 2);
        worth("100/10*5", 50);
        worth("7*3/2", 10);
        worth("7/2*3", 9);
        worth("7/(2*3)", 1);
        worth("1-2*3*4-5", -28);
        worth("64" + Check.times("/2", 6), 1);
        worth("0" + Check.times("-1", 20), -20);
        worth(Check.times("(9-", 8) + "1" + Check.times(")", 8), 1);
        worth(Check.times("(9-2*", 8) + "3" + Check.times(")", 8), 3);
        worth(Check.times("-", 7) + "5", -5);
        worth(Check.times("-", 8) + "5", 5);
        EnumRules x = Check.loaded("enum A{X;maker=B.X-C.X*D.X;}enum B{X}enum C{X}enum D{X}");
        x.value(0, 0);
        check.traced("wanted from the left", x, "0 1000 1001 1100 2000 2001 2100 3000 3001 3100 1 100");
    }

    private static void towardZero() {
        check.says("/ is cut off toward 0 (ARITHMETIC: by 0).");
        worth("7/2", 3);
        worth("-7/2", -3);
        worth("7/-2", -3);
        worth("-7/-2", 3);
        worth("-(7/2)", -3);
        worth("1/2", 0);
        worth("-1/2", 0);
        worth("1/-2", 0);
        worth("0/5", 0);
        worth("0/-5", 0);
        worth("6/3", 2);
        worth("-6/3", -2);
        worth("-5/3", -1);
        worth("999999999/999999999", 1);
        worth("-999999998/999999999", 0);
    }

    private static void byZero() {
        check.says("/ is cut off toward 0 (ARITHMETIC: by 0).");
        for (String exp : new String[] {"1/0", "0/0", "-1/0", "1/-0", "1/(1-1)", "5/(1/2)", "1/0*0", "0*(1/0)", "1+2/0", "1/0/1", "65536/(65536*65536)"}) {
            EnumRules maker = Check.loaded("enum A{X;maker=" + exp + ";}");
            check.fails("maker by " + exp, maker, 0, maker.value(0, 0), 2);
            EnumRules field = Check.loaded("enum A{X;field f=" + exp + ";}");
            check.fails("field by " + exp, field, 0, field.field(0, 0), 2);
            EnumRules member = Check.loaded("enum A{X{n=" + exp + ";};def m=" + exp + ";def n=1;}");
            check.fails("def by " + exp, member, 0, member.call(0, 0, 0), 2);
            check.fails("give by " + exp, member, 1, member.call(0, 0, 1), 2);
            states("a member's failure leaves its ENUM", member, 1);
        }
        EnumRules first = Check.loaded("enum A{X;maker=1/0+A.X;}enum B{X;maker=B.X+1/0;}");
        check.fails("the left one of two", first, 0, first.value(0, 0), 2);
        check.fails("the left one of two", first, 1, first.value(1, 0), 1);
    }

    private static void namesAlone() {
        check.says("NAME alone: that FIELD of its ENUM; NAME.NAME: the VAL of that CONSTANT");
        EnumRules x = Check.loaded("enum A{X(1),Y(2);maker=arg*10;const k=5;field f=k+1;def m=f;def n=B.Y+A.Y;}"
            + "enum B{X(3),Y(4);maker=arg*k;const k=100;field f=k+2;def m=f;}");
        check.due("f of A", x.call(0, 0, 0), 6);
        check.due("f of B", x.call(1, 0, 0), 102);
        check.due("B.Y+A.Y", x.call(0, 1, 1), 420);
        EnumRules y = Check.loaded("enum A{X;const a=1;const b=2;const c=3;const d=4;const e=5;const f=6;maker=a+b*10+c*100+d*1000+e*10000+f*100000;}");
        check.due("six", y.value(0, 0), 654321);
        EnumRules z = Check.loaded(Check.times("enum A#{a,b,c,d,e,f,g,h,i,j,k,l;maker=#*100+place;}", 7)
            + "enum Z{X;def m=A0.a;def n=A0.l;def o=A6.a;def p=A6.l;}");
        int[] want = {0, 11, 600, 611};
        for (int m = 0; m < want.length; m++) {
            check.due("the first and the last, " + m, z.call(7, 0, m), want[m]);
        }
    }

    private static void valAndPlace() {
        check.says("val, place: of the CONSTANT by which it is worked out.");
        EnumRules x = Check.loaded("enum A{a(7),b(8){m=val*100+place;},c,d,e,f,g,h,i,j,k,l(9);maker=arg+place*0;def m=place*100+val;}"
            + "enum B{P;def m=A.b;}");
        check.due("the first", x.call(0, 0, 0), 7);
        check.due("by its body", x.call(0, 1, 0), 801);
        check.due("without a number", x.call(0, 2, 0), 200);
        check.due("the last", x.call(0, 11, 0), 1109);
        EnumRules y = Check.loaded("enum A{X,Y,Z;maker=place;}");
        for (int c = 0; c < 3; c++) {
            check.due("place in a maker", y.value(0, c), c);
        }
    }

    // ---- the trace

    private static void traceRows() {
        check.says("THE TRACE tells what began (1000 E), what CONSTANT was made (1000 E + 1 + its place), what is DONE (1000 E + 100), "
            + "has FAILED (1000 E + 200), E being the ENUM");
        EnumRules x = Check.loaded("enum A{X}" + Check.times("enum B#{}", 5) + "enum G{X(1),Y;maker=1/arg;}enum H{a,b,c,d,e,f,g,h,i,j,k,l}");
        x.value(7, 0);
        check.traced("the last enum", x, "7000 7001 7002 7003 7004 7005 7006 7007 7008 7009 7010 7011 7012 7100");
        x.value(6, 0);
        x.value(0, 0);
        x.values(3);
        check.same("the rows behind", Check.trace(x).substring(70), "6000 6001 6200 0 1 100 3000 3100");
    }

    /** No run of calls comes to 200: an ENUM has 14 rows at most, and begins once. */
    private static void traceIsFullest() {
        check.says("200 at most, more are left.");
        EnumRules x = Check.loaded(Check.times("enum A#{a,b,c,d,e,f,g,h,i,j,k,l}", 8));
        for (int e = 0; e < 8; e++) {
            check.due("values", x.values(e), 12);
            check.due("rows", x.count(1), 14 * (e + 1));
        }
        check.due("the last row", x.trace(111), 7100);
        check.due("behind it", x.trace(112), EnumRules.NONE);
        check.due("row 199", x.trace(199), EnumRules.NONE);
        check.due("row 200", x.trace(200), EnumRules.NONE);
        for (int e = 0; e < 8; e++) {
            x.value(e, 0);
        }
        check.due("rows", x.count(1), 112);
        Check.load(x, Check.times("enum A#{a,b,c,d,e,f,g,h,i,j,k,l;field z=1/0;}", 8));
        for (int e = 0; e < 8; e++) {
            check.due("values", x.values(e), 0);
        }
        check.due("rows after a load", x.count(1), 112);
        check.due("the last row", x.trace(111), 7200);
    }

    private static void eightInWork() {
        check.says("also when others want it while it is in work");
        String text = chain(8, "maker=5;");
        eightBy("value", text, x -> x.value(0, 1), LINKED);
        eightBy("call", text, x -> x.call(0, 0, 0), LINKED * 2);
        eightBy("field", text, x -> x.field(0, 0), LINKED);
        eightBy("compare", text, x -> x.compare(0, 0, 0, 1), 1);
        eightBy("values", text, x -> x.values(0), 2);
        eightBy("named", text, x -> Check.named(x, 0, "Y"), 1);
        EnumRules second = Check.loaded("enum B{P}" + chain(7, "maker=5;"));
        check.fails("compare, as the second", second, 0, second.compare(0, 0, 1, 0), 5);
        check.due("rows", second.count(1), 3 + 7 * 4);
        EnumRules ring = Check.loaded(chain(8, "maker=A0.X;"));
        check.fails("a ring of eight", ring, 0, ring.value(0, 0), 1);
        check.traced("a ring of eight", ring, "0 1000 2000 3000 4000 5000 6000 7000 7200 6200 5200 4200 3200 2200 1200 200");
        EnumRules last = Check.loaded(chain(8, "maker=1/0;"));
        check.fails("the eighth fails", last, 0, last.values(0), 2);
        check.traced("the eighth fails", last, "0 1000 2000 3000 4000 5000 6000 7000 7200 6200 5200 4200 3200 2200 1200 200");
    }

    /** The innermost one's val, and 9 more by each of the seven around it. */
    private static final int LINKED = 5 + 7 * 9;

    /** Each wants the next one eight deep in parentheses, with as many operands waiting as there can be. */
    private static String chain(int many, String innermost) {
        StringBuilder text = new StringBuilder();
        for (int e = 0; e < many; e++) {
            String next = "1+1*" + Check.times("(1+1*", 8) + "A" + (e + 1) + ".X" + Check.times(")", 8);
            text.append("enum A").append(e).append("{X,Y;").append(e < many - 1 ? "maker=" + next + ";" : innermost);
            text.append(e == 0 ? "field f=A0.Y;def m=A0.X+val;}" : "field f=A" + (many - 1) + ".X;}");
        }
        return text.toString();
    }

    private static void eightBy(String what, String text, Twins.Call call, int answer) {
        EnumRules x = Check.loaded(text);
        check.due(what, call.on(x), answer);
        check.due("cause of " + what, x.cause(), 0);
        check.due("rows", x.count(1), 8 * 4);
        check.due("the innermost began", x.trace(7), 7000);
        check.due("the innermost is done", x.trace(10), 7100);
        check.due("the outermost is done", x.trace(31), 100);
    }
}
