/** Texts, each with the fault that is due and its place (Terms, "1 TEXT"; promises 4 and 5). */
public final class FaultsTest {
    private static final Check check = new Check();

    public static void main(String[] args) {
        grammar();
        tokens();
        limits();
        cutTokens();
        fullTapes();
        nesting();
        toldTwice();
        givesAndAbstracts();
        meanings();
        leastPlace();
        check.finish("FaultsTest");
    }

    private static void due(int fault, String marked) {
        check.fault(fault, marked);
    }

    private static String times(String part, int many) {
        return Check.times(part, many);
    }

    private static void grammar() {
        due(0, "");
        due(0, " \n ");
        due(0, "enum A{}");
        due(0, "enum A{;}");
        due(0, "enum A{X}enum B{X,Y}");
        due(0, "enum A{X(1){},Y{},Z(0)}");
        due(0, "enum A{X{n=val;};maker=arg+place;def m=val*place;field f=1;const k=2;abstract n;}");
        due(0, "\nenum A\n{ X ( 1 ) { m = A . X + k ; } ; def m = 1 ; const k = 2 ; } ");
        due(1, "enum A{X;|");
        due(1, "enum A{X;   |");
        due(1, "enum|");
        due(1, "enum A{X(1|");
        due(1, "|A{X}");
        due(1, "enum |enum{X}");
        due(1, "enum A |X}");
        due(1, "enum A{X |Y}");
        due(1, "enum A{X,|}");
        due(1, "enum A{|,X}");
        due(1, "enum A{X(|)}");
        due(1, "enum A{X(|-1)}");
        due(1, "enum A{X(1|+1)}");
        due(1, "enum A{X{}|(1)}");
        due(1, "enum A{X{m|;}}");
        due(1, "enum A{X{m=|;}}");
        due(1, "enum A{X{m=1|}}");
        due(1, "enum A{X{|def m=1;}}");
        due(1, "enum A{X;|m=1;}");
        due(1, "enum A{X;abstract m|=1;}");
        due(1, "enum A{X;abstract |abstract;}");
        due(1, "enum A{X;const k=|-1;}");
        due(1, "enum A{X;const k=1|+1;}");
        due(1, "enum A{X;maker |m=1;}");
        due(1, "enum A{X;def m=1+|;}");
        due(1, "enum A{X;def m=|+1;}");
        due(1, "enum A{X;def m=1|(2);}");
        due(1, "enum A{X;def m=(1|;}");
        due(1, "enum A{X;def m=1|);}");
        due(1, "enum A{X;def m=(1)|);}");
        due(1, "enum A{X;def m=(|);}");
        due(1, "enum A{X;def m=A.|1;}");
        due(1, "enum A{X;def m=A.X|.X;}");
        due(1, "enum A{X;def m=A.|val;}");
        due(1, "enum A{X;def m=|field;}");
        due(1, "enum A{X;}|;");
        due(1, "enum A{X}|}");
    }

    private static void tokens() {
        due(0, "enum abcdefghijkl{A23456789012}");
        due(1, "enum |abcdefghijklm{X}");
        due(1, "enum A{X;def m=|A234567890123.X;}");
        due(0, "enum A{X(999999999);const k=000000001;}");
        due(1, "enum A{X(123456789|0)}");
        due(1, "enum A{X;def m=123456789|0;}");
        due(1, "enum A{X(1|a)}");
        due(1, "enum A{X|#}");
        due(1, "enum A{X}|\t");
        due(1, "enum A{X}|\r");
        due(1, "enum A{X|\u0000}");
        due(1, "enum A{|\u00e9}");
        due(1, "enum A{|_}");
        due(1, "enum A{X|\u00ff");
        due(1, "|enumA{X}");
        due(0, "enum enum1{Enum,def2,values}");
        due(0, "enum azAZ09{z,Z,a,A,z9,Z0}");
        for (String word : "enum abstract def field const maker arg val place".split(" ")) {
            due(1, "enum |" + word + "{X}");
            due(1, "enum A{|" + word + "}");
            due(1, "enum A{X{|" + word + "=1;}}");
            due(1, "enum A{X;abstract |" + word + ";}");
            due(1, "enum A{X;const |" + word + "=1;}");
        }
    }

    private static void limits() {
        due(0, times("enum A#{}", 8));
        due(1, times("enum A#{}", 8) + "enum |B{}");
        due(1, times("enum A#{}", 8) + "enum |1{}");
        due(1, times("enum A#{}", 8) + "|B");
        due(0, "enum A{C" + times(",D#", 11) + "}");
        due(1, "enum A{C" + times(",D#", 11) + ",|E}");
        due(0, "enum A{;" + times("abstract a#;def d#=1;", 4) + "}");
        due(1, "enum A{;" + times("abstract a#;def d#=1;", 4) + "abstract |x;}");
        due(1, "enum A{;" + times("abstract a#;def d#=1;", 4) + "def |x=1;}");
        due(0, "enum A{;" + times("const a#=1;field d#=1;", 3) + "}");
        due(1, "enum A{;" + times("const a#=1;field d#=1;", 3) + "const |x=1;}");
        due(1, "enum A{;" + times("const a#=1;field d#=1;", 3) + "field |x=1;}");
        due(0, "enum A{C" + times(",D#", 11) + "}enum B{C" + times(",D#", 11) + "}");
        due(1, "enum A{X,X;" + times("const a=1;", 6) + "const |x=1;}");
        due(2, "enum A{X;maker=1;|" + times("maker=1;", 200) + "}");
        due(0, "enum A{X}" + times(" ", 1991));
        due(1, "enum A{X|#" + times(" ", 1991));
        due(1, "enum A{X" + times(" ", 1992) + "|");
    }

    /** What end() has cut off is still behind the tape's end in no sense. */
    private static void cutTokens() {
        cut("enumX", 4, 4);
        cut("enum abcdefghijklm", 17, 17);
        cut("enum A{X(1234567890", 18, 18);
        cut("enum A{X}#", 9, -1);
        cut("enum A{X}enum", 9, -1);
    }

    private static void cut(String text, int keep, int place) {
        EnumRules x = new EnumRules();
        Check.tape(x, text);
        x.end(keep);
        check.due("load of " + text + " up to " + keep, x.load(), place < 0 ? 1 : -11);
        check.due("fault(1) of " + text + " up to " + keep, x.fault(1), place < 0 ? EnumRules.NONE : place);
    }

    private static void fullTapes() {
        due(1, "enum A{X{" + times("m=1;", 497) + "m=|");
        due(1, "enum A{X{" + times("m=1;", 497) + "}|#");
        due(2, "enum A{X{m=1;|" + times("m=1;", 494) + "};def m=1;}");
        String exp = "=1" + times("+1", 20) + ";";
        due(2, "enum A{X{a" + exp + "|" + times("a" + exp, 43) + "};abstract a;}");
        due(0, allEnums("l"));
        due(2, allEnums("|e7"));
        due(2, allEnums("|D10"));
    }

    /** As many of everything as there may be; the name is that of the very last field. */
    private static String allEnums(String last) {
        StringBuilder text = new StringBuilder();
        for (int e = 0; e < 8; e++) {
            text.append("enum A").append(e).append("{C").append(times(",D#", 11)).append(';');
            text.append(times("def e#=1;", 8)).append(times("const k#=1;", 5));
            text.append("const ").append(e < 7 ? "l" : last).append("=1;}");
        }
        return text.toString();
    }

    private static void nesting() {
        due(0, "enum A{X;def m=" + times("(", 8) + "1" + times(")", 8) + ";}");
        due(1, "enum A{X;def m=" + times("(", 8) + "|(1" + times(")", 9) + ";}");
        due(0, "enum A{X;def m=" + times("-", 8) + "1;}");
        due(1, "enum A{X;def m=" + times("-", 8) + "|-1;}");
        due(0, "enum A{X;def m=-(-(-(-(1))));}");
        due(1, "enum A{X;def m=-(-(-(-(|-1))));}");
        due(1, "enum A{X;def m=-(-(-(-(|(1)))));}");
        due(0, "enum A{X;def m=" + times("-", 8) + "1-" + times("-", 8) + "1*" + times("-", 8) + "1;}");
        due(0, "enum A{X;def m=" + times("(", 8) + "1" + times(")", 8) + "+" + times("(", 8) + "1" + times(")", 8) + ";}");
        due(0, "enum A{X;def m=" + times("(1*", 8) + "1" + times(")", 8) + ";}");
        due(1, "enum A{X;def m=" + times("(1*", 8) + "|-1" + times(")", 8) + ";}");
        due(0, "enum A{X;def m=" + times("(1+1*", 8) + "1" + times(")", 8) + ";}");
        due(1, "enum A{X;def m=" + times("(1-", 8) + "1" + times(")", 7) + "|;}");
        due(0, "enum A{X;def m=1" + times("+1", 20) + ";}");
        due(1, "enum A{X;def m=1" + times("+1", 20) + "|+1;}");
        due(1, "enum A{X;def m=1" + times("+1*1-1/1", 5) + "|/1;}");
        due(0, "enum A{X;def m=-1" + times("- -1", 20) + ";}");
        due(1, "enum A{X;def m=(1" + times("+1", 19) + ")*1|*1;}");
        due(1, "enum A{X;def m=1" + times("+1", 10) + "-(1" + times("+1", 9) + "|+1);}");
        due(0, "enum A{X;def m=1" + times("+1", 20) + ";def n=1" + times("*1", 20) + ";}");
    }

    private static void toldTwice() {
        due(2, "enum A{}enum B{}enum |A{}");
        due(2, "enum A{X,Y,|X}");
        due(2, "enum A{;abstract m;def |m=1;}");
        due(2, "enum A{X;const f=1;field |f=1;}");
        due(2, "enum A{X;def |X=1;}");
        due(2, "enum A{X;const |X=1;}");
        due(2, "enum A{X;def m=1;const |m=1;}");
        due(2, "enum A{X;const m=1;def |m=1;}");
        due(2, "enum A{X{m=1;|m=2;};def m=1;}");
        due(0, "enum A{X{m=1;},Y{m=2;};def m=1;}");
        due(2, "enum A{X;maker=1;|maker=1;}");
        due(0, "enum A{X;maker=1;}enum B{X;maker=1;}");
        due(0, "enum A{A;}enum B{A,B;}");
        due(0, "enum A{x,X;def Y=1;const y=1;}");
        due(0, "enum A{X,XX,XXX,X1;}");
    }

    private static void givesAndAbstracts() {
        due(3, "enum A{X{|m=1;}}");
        due(3, "enum A{X{|f=1;};const f=1;}");
        due(3, "enum A{X{|Y=1;},Y}");
        due(3, "enum A{X{|m=1;m=1;}}");
        due(3, "enum A{X{|m=1;}}enum B{X;def m=1;}");
        due(0, "enum A{X{m=1;};const k=1;abstract m;}");
        due(4, "enum A{|X;abstract m;}");
        due(4, "enum A{|X{};abstract m;}");
        due(4, "enum A{X{m=1;},|Y;abstract m;}");
        due(4, "enum A{X{m=1;n=1;},|Y{m=1;};abstract m;abstract n;}");
        due(4, "enum A{|X;abstract m;def m=1;}");
        due(4, "enum A{|X;def m=1;abstract m;}");
        due(2, "enum A{X{m=1;};def m=1;abstract |m;}");
        due(2, "enum A{X{m=1;};abstract m;abstract |m;}");
        due(0, "enum A{;abstract m;}");
    }

    private static void meanings() {
        due(5, "enum A{X;field f=1;maker=|f;}");
        due(5, "enum A{X;maker=1+|f;field f=1;}");
        due(0, "enum A{X;maker=k;const k=1;}");
        due(6, "enum A{X;maker=|g;field f=1;}");
        due(2, "enum A{X;maker=f;const f=1;field |f=1;}");
        due(5, "enum A{X;maker=|f;field f=1;const f=1;}");
        due(6, "enum A{X;def m=|f;}");
        due(6, "enum A{X;def m=|X;}");
        due(6, "enum A{X;def m=|m;}");
        due(6, "enum A{X;def m=|A;}");
        due(6, "enum A{X;def m=|k;}enum B{X;const k=1;}");
        due(0, "enum A{X;field f=f+g;field g=f;}");
        due(0, "enum A{X;def m=B.Y;}enum B{Y;}");
        due(6, "enum A{X;def m=|B.X;}enum B{Y;}");
        due(6, "enum A{X;def m=|B.X;}");
        due(6, "enum A{X;def m=|A.m;}");
        due(6, "enum A{X;def m=1+|A . k;const k=1;}");
        due(2, "enum A{X;def m=A.X;}enum B{}enum |A{Y}");
        due(6, "enum A{X;def m=|A.Y;}enum A{Y}");
        due(6, "enum A{X{m=|arg;};def m=1;}");
        due(6, "enum A{X;def m=|arg;}");
        due(6, "enum A{X;field f=|arg;}");
        due(6, "enum A{X;field f=|val;}");
        due(6, "enum A{X;field f=|place;}");
        due(6, "enum A{X;maker=arg+place+|val;}");
        due(0, "enum A{X{m=val+place;};def m=place-val;maker=arg*place;}");
    }

    private static void leastPlace() {
        due(1, "enum A{X,X;maker=f;field f=val;abstract m;|");
        due(2, "enum A{X{m=1;},|X;abstract m;}");
        due(4, "enum A{|X,X;abstract m;}");
        due(3, "enum A{X{|q=val;m=arg;};def m=1;}");
        due(6, "enum A{X{m=|arg;q=1;};def m=1;}");
        due(6, "enum A{X;def m=|q;}enum A{X;}");
        due(5, "enum A{X;maker=|f+g;field f=val;}");
        due(4, "enum A{|X{m=arg;};def m=1;abstract n;}");
    }
}
