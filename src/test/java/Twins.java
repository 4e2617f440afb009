/** Two objects in one state, of which only the first gets a call that is refused: then nothing tells them apart. */
final class Twins {
    interface Call {
        int on(EnumRules x);
    }

    interface Maker {
        EnumRules make();
    }

    static final int ENUMS = 3, HAND = 3, TAPE = 24, TRACE = 7;
    private static final String TEXT = "enum A{X(4){m=val+k;},Y(6),Z;def m=place-1;const k=9;field f=A.Y;maker=arg+1;}"
        + "enum B{P;maker=1/0;const k=3;field f=2;def m=1;}"
        + "enum C{Q,R{};maker=A.X+place;def m=val;field g=7;}";
    private static final String NEXT_TEXT = "enum T{U(77);maker=arg;}";

    private final Check check;

    Twins(Check check) {
        this.check = check;
    }

    void refused(String name, Maker maker, Call call, int code) {
        EnumRules called = maker.make();
        EnumRules left = maker.make();
        check.due(name, call.on(called), code);
        check.same("what " + name + " leaves", all(called), all(left));
    }

    /** A is done, B has failed, C is not started; the hand is mixed, a fault and a cause are told, the tape holds a text. */
    static EnumRules busy() {
        EnumRules x = Check.loaded(TEXT);
        x.values(0);
        x.swap(0, 2);
        x.value(1, 0);
        Check.load(x, "enum A{X,X}");
        x.compare(0, 0, 1, 0);
        Check.tape(x, NEXT_TEXT);
        return x;
    }

    /** As busy, with blanks behind the text up to so many bytes. */
    static EnumRules withTape(int bytes) {
        EnumRules x = busy();
        Check.tape(x, NEXT_TEXT + " ".repeat(bytes - NEXT_TEXT.length()));
        return x;
    }

    static String all(EnumRules x) {
        StringBuilder rows = new StringBuilder();
        rows.append("cause ").append(x.cause()).append(" fault ").append(x.fault(0)).append(' ').append(x.fault(1)).append(" counts");
        for (int k = 0; k < 5; k++) {
            rows.append(' ').append(x.count(k));
        }
        rows.append(" hand");
        for (int k = 0; k < x.count(2); k++) {
            rows.append(' ').append(x.hand(k));
        }
        rows.append(enums(x));
        rows.append(" load ").append(x.load()).append(' ').append(x.fault(0)).append(' ').append(x.fault(1));
        rows.append(" count ").append(x.count(0)).append(" told ").append(x.told(0, 0)).append(" value ").append(x.value(0, 0));
        return rows.toString();
    }

    /** All that can be asked of the enumerations; those that are not started yet start by it. */
    static String enums(EnumRules x) {
        StringBuilder rows = new StringBuilder();
        rows.append(" enums ").append(x.count(0)).append(" trace ").append(Check.trace(x));
        for (int e = 0; e < x.count(0); e++) {
            addTold(rows, x, e);
        }
        for (int e = 0; e < x.count(0); e++) {
            addWorked(rows, x, e);
        }
        return rows.append(" trace ").append(Check.trace(x)).toString();
    }

    private static void addTold(StringBuilder rows, EnumRules x, int e) {
        rows.append(" told");
        for (int k = 0; k < 5; k++) {
            rows.append(' ').append(x.told(e, k));
        }
        rows.append(" bodies");
        for (int c = 0; c < x.told(e, 0); c++) {
            rows.append(' ').append(x.hasBody(e, c));
        }
    }

    private static void addWorked(StringBuilder rows, EnumRules x, int e) {
        for (int f = 0; f < x.told(e, 2) + x.told(e, 3); f++) {
            rows.append(" field ").append(x.field(e, f)).append(" by ").append(x.cause());
        }
        for (int c = 0; c < x.told(e, 0); c++) {
            rows.append(" value ").append(x.value(e, c)).append(" by ").append(x.cause());
            for (int m = 0; m < x.told(e, 1); m++) {
                rows.append(" call ").append(x.call(e, c, m)).append(" by ").append(x.cause());
            }
        }
    }
}
