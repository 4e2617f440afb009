/** The sentences of "1 TEXT" that name a boundary case, a method for each; a bar stands ahead of a fault's place. */
public final class TextBoundsTest {
    private static final String[] WORDS = "enum abstract def field const maker arg val place".split(" ");
    /** Where a NAME may stand; # is the NAME. The texts around it have no fault with any of the names that are put in. */
    private static final String[] TOLD_NAMES = {"enum #{X}", "enum A{#}", "enum A{X,#}", "enum A{;abstract #;}",
        "enum A{X;def #=1;}", "enum A{X;field #=1;}", "enum A{X;const #=1;}"};
    private static final String[] USED_NAMES = {"enum A{X{#=1;};def #=2;}", "enum A{X;const #=1;def m=#;}", "enum #{X;def m=#.X;}",
        "enum A{#;def m=A.#;}", "enum A{X;const #=1;maker=#;}", "enum A{X;field #=1;field f=-#;}"};
    private static final String[] EXPS = {"enum A{X{m=#;};abstract m;}", "enum A{X;def m=#;}", "enum A{X;field f=#;}", "enum A{X;maker=#;}"};
    private static final Check check = new Check();

    public static void main(String[] args) {
        longestTokens();
        nameLengths();
        nameLetters();
        words();
        numberDigits();
        everyByte();
        blanksBetween();
        manyOrNone();
        orNot();
        eightDeep();
        eightDeepAgain();
        twentySigns();
        twentySignsOfOneExp();
        firstOfOneName();
        givenByItsName();
        firstPlace();
        otherTokens();
        missingNames();
        ninthNested();
        twentyFirstSign();
        endsTooSoon();
        ninthEnum();
        thirteenthConstant();
        ninthMember();
        seventhField();
        limitsTogether();
        faultOneIsAhead();
        leastPlace();
        leastOfSeveral();
        enumToldBefore();
        namesToldBefore();
        giveToldBefore();
        secondMaker();
        giveOfNoMember();
        abstractNotGiven();
        fieldInMaker();
        nameOfNoField();
        nameOfNoConstant();
        wordsOutOfPlace();
        check.finish("TextBoundsTest");
    }

    private static void due(int fault, String marked) {
        check.fault(fault, marked);
    }

    private static String times(String part, int many) {
        return Check.times(part, many);
    }

    // ---- tokens

    private static void longestTokens() {
        check.says("TOKENS, the longest that there are");
        due(1, "|enumA{X}");
        due(1, "enum A{X;|defm=1;}");
        due(1, "enum A{X;|abstractm;}");
        due(1, "enum A{X}|enumB{X}");
        due(6, "enum A{X;maker=|arg1;}");
        due(6, "enum A{X;def m=|vals;}");
        due(0, "enum A{X;maker=arg+1;}");
        due(0, "enum A{X;const arg1=1;maker=arg1;}");
        due(1, "enum A{X(1|a)}");
        due(1, "enum A{X;def m=1|X;}");
        due(1, "enum A{X(1|enum)}");
        due(0, "enum A{a1,a12,a1b2}");
    }

    private static void nameLengths() {
        check.says("NAMES (a letter a .. z, A .. Z, then these and digits, 12 at most; longer ones are none)");
        for (String place : TOLD_NAMES) {
            nameLengthsAt(place);
        }
        for (String place : USED_NAMES) {
            nameLengthsAt(place);
        }
        due(6, "enum A{X;def m=|abcdefghijkl;}");
        due(1, "enum A{X;def m=|abcdefghijklm;}");
        due(1, "enum A{X;def m=A.|abcdefghijklm;}");
        due(1, "enum A{X{|abcdefghijklm=1;}}");
        due(1, "|" + times("x", 2000));
        due(1, "enum |" + times("x", 1995));
        due(1, "enum |" + times("x1", 900) + "{}");
    }

    private static void nameLengthsAt(String place) {
        due(0, place.replace("#", "b"));
        due(0, place.replace("#", "b2345678901"));
        due(0, place.replace("#", "abcdefghijkl"));
        due(0, place.replace("#", "Z00000000000"));
        due(1, atFirst(place, "abcdefghijklm"));
        due(1, atFirst(place, "Z000000000000"));
        due(1, atFirst(place, "abcdefghijklmnopqrstuvwxyz"));
    }

    /** The name at each # of the place, and the bar ahead of the first. */
    private static String atFirst(String place, String name) {
        int at = place.indexOf('#');
        return place.substring(0, at) + "|" + place.substring(at).replace("#", name);
    }

    private static void nameLetters() {
        check.says("NAMES (a letter a .. z, A .. Z, then these and digits, 12 at most; longer ones are none)");
        for (String place : TOLD_NAMES) {
            for (String name : "a z B Z a0 z9 Z0a Zz aA".split(" ")) {
                due(0, place.replace("#", name));
            }
            for (String none : "0 9 0a 9z @ [ ` ~ _ : $a # \u00e9 \u00c0".split(" ")) {
                due(1, atFirst(place, none));
            }
        }
        for (String other : "@ [ ` _ : $ \u00e9 \u00ff \u0000 \u0080".split(" ")) {
            due(1, "enum A{X|" + other + "}");
            due(1, "enum A{X1|" + other + "Y}");
        }
    }

    private static void words() {
        check.says("but these WORDS: enum abstract def field const maker arg val place");
        for (String word : WORDS) {
            for (String place : TOLD_NAMES) {
                due(1, atFirst(place, word));
                due(0, place.replace("#", word + "1"));
                due(0, place.replace("#", word.substring(0, word.length() - 1)));
                due(0, place.replace("#", Character.toUpperCase(word.charAt(0)) + word.substring(1)));
                due(0, place.replace("#", "x" + word));
            }
            due(1, "enum A{X{|" + word + "=1;}}");
            due(1, "enum A{X;def m=A.|" + word + ";}");
            due(1, "enum A{X;def m=" + (word.matches("arg|val|place") ? word + "|" : "|" + word) + ".X;}");
        }
    }

    private static void numberDigits() {
        check.says("NUMBERS (1 to 9 digits)");
        for (String place : new String[] {"enum A{X(#)}", "enum A{X;const k=#;}", "enum A{X;def m=#;}", "enum A{X;maker=1+#;}"}) {
            for (String number : "0 9 00 10 123456789 999999999 000000000 000000001".split(" ")) {
                due(0, place.replace("#", number));
            }
            due(1, atFirst(place, ""));
            due(1, place.replace("#", "123456789|0"));
            due(1, place.replace("#", "000000000|1"));
            due(1, place.replace("#", "999999999|9999999999"));
            due(1, place.replace("#", "1 |2"));
        }
        EnumRules x = Check.loaded("enum A{X(999999999),Y(000000007);maker=arg;const k=999999999;def m=999999999;}");
        check.due("value of nine digits", x.value(0, 0), 999999999);
        check.due("value of zeros ahead", x.value(0, 1), 7);
        check.due("const of nine digits", x.field(0, 0), 999999999);
        check.due("def of nine digits", x.call(0, 0, 0), 999999999);
    }

    /** Each byte behind the NAME of a CONSTANT that a } follows. */
    private static void everyByte() {
        check.says("{ } ( ) , ; = + - * / and . ; blanks (32, 10) between");
        for (int b = 0; b < 256; b++) {
            String text = "enum A{X" + (char) b + "}";
            boolean inName = b >= 'a' && b <= 'z' || b >= 'A' && b <= 'Z' || b >= '0' && b <= '9';
            boolean goesOn = inName || b == 32 || b == 10 || b == ';';
            int place = b == ',' || b == '(' || b == '}' ? 9 : b == '{' ? 10 : 8;
            check.faultAt(goesOn ? 0 : 1, place, text, "enum A{X, byte " + b + " and }");
            boolean blank = b == 32 || b == 10;
            String ahead = (char) b + "enum A{X}";
            check.faultAt(blank ? 0 : 1, 0, ahead, "byte " + b + " and enum A{X}");
            check.faultAt(blank ? 0 : 1, 9, "enum A{X}" + (char) b, "enum A{X} and byte " + b);
        }
    }

    private static void blanksBetween() {
        check.says("blanks (32, 10) between");
        due(0, " \n enum \n A \n { \n X \n ( \n 1 \n ) \n { \n m \n = \n A \n . \n X \n ; \n } \n ; \n def \n m \n = \n - \n 1 \n + \n 2 \n ; \n } \n ");
        due(0, "enum A{X(1){m=A.X;};def m=-1+2;}");
        due(1, "|en um A{X}");
        due(1, "enum A |B{X}");
        due(1, "enum A{X |Y}");
        due(1, "enum A{X(1 |2)}");
        due(1, "enum A{X\n|Y}");
        due(1, "enum A{X;|de f m=1;}");
    }

    // ---- the grammar

    private static void manyOrNone() {
        check.says("( [ ] for \"or not\", ( )* any number of times, | or)");
        due(0, "");
        due(0, "enum A{}");
        due(0, "enum A{}enum B{}");
        due(0, "enum A{X{}}");
        due(0, "enum A{X{m=1;};def m=1;}");
        due(0, "enum A{X{m=1;n=1;};def m=1;def n=1;}");
        due(0, "enum A{X;}");
        due(0, "enum A{X;def m=1;}");
        due(0, "enum A{X;def m=1*2*3/4/5;def n=1+2+3-4-5;}");
        due(1, "enum A{X,|}");
        due(1, "enum A{X,|,Y}");
        due(1, "enum A{|,}");
        due(1, "enum A{X;|;}");
        due(1, "enum A{X{m=1;|;};def m=1;}");
        due(1, "enum A{X;def m=1;|;}");
        due(1, "enum A{}|;");
        due(1, "enum A{}|}");
        due(1, "enum A{X;def m=1+|+1;}");
        due(1, "enum A{X;def m=1*|/1;}");
        due(1, "enum A{X;def m=1*|;}");
    }

    private static void orNot() {
        check.says("( [ ] for \"or not\", ( )* any number of times, | or)");
        due(0, "enum A{X,Y(1),Z{},W(1){}}");
        due(1, "enum A{X(1)|(2)}");
        due(1, "enum A{X{}|{}}");
        due(1, "enum A{X{}|(1)}");
        due(1, "enum A{X(|)}");
        due(1, "enum A{X(|k)}");
        due(1, "enum A{X(|(1))}");
        due(1, "enum A{X;const k=|k;}");
        due(1, "enum A{X;const k=|(1);}");
        due(1, "enum A{X;maker |m=1;}");
        due(1, "enum A{X;abstract m|=1;}");
        due(1, "enum A{X;def m|;}");
        due(1, "enum A{X;field f|;}");
        due(1, "enum A{X;|X}");
        due(1, "enum A{X;def m=1|}");
        due(1, "enum A{X;def m=(1|;}");
        due(1, "enum A{X;def m=1|);}");
        due(1, "enum A{X;def m=A.X|.Y;}");
        due(1, "enum A{X;def m=1|.X;}");
        due(1, "enum A{X;def m=A.|(X);}");
    }

    /** Each of the 256 ways to nest ( and - eight deep. */
    private static void eightDeep() {
        check.says("( and - in each other 8 deep at most");
        for (int way = 0; way < 256; way++) {
            StringBuilder open = new StringBuilder();
            StringBuilder close = new StringBuilder();
            for (int k = 0; k < 8; k++) {
                boolean minus = (way >> k & 1) == 1;
                open.append(minus ? "-" : "(");
                close.append(minus ? "" : ")");
            }
            String place = EXPS[way % 4];
            due(0, place.replace("#", open + "1" + close));
            due(1, place.replace("#", open + "|(1)" + close));
            due(1, place.replace("#", open + "|-1" + close));
        }
    }

    private static void eightDeepAgain() {
        check.says("( and - in each other 8 deep at most");
        String round = times("(", 8) + "1" + times(")", 8);
        String minus = times("-", 8) + "1";
        for (String place : EXPS) {
            due(0, place.replace("#", round + "+" + round + "*" + round));
            due(0, place.replace("#", minus + "+" + minus + "*" + minus));
            due(0, place.replace("#", minus + "-" + round));
            due(0, place.replace("#", times("(", 8) + "1-1" + times(")", 8)));
            due(0, place.replace("#", "(" + times("-", 7) + "1-" + times("-", 7) + "1)"));
            due(1, place.replace("#", "(" + times("-", 7) + "1-" + times("-", 7) + "|-1)"));
            due(0, place.replace("#", times("(1+", 8) + "1" + times(")*2", 8)));
            due(1, place.replace("#", times("(1+", 8) + "|(1)" + times(")*2", 8)));
            due(0, place.replace("#", "-(" + times("-", 6) + "1)*" + times("-", 8) + "1"));
            due(0, place.replace("#", times("(", 8) + "1" + times(")", 7) + "-(1))"));
            due(0, place.replace("#", times("(", 8) + "1" + times(")", 7) + "*-1)"));
            due(0, place.replace("#", times("(", 8) + "1" + times(")", 7) + "*-(" + times("-", 5) + "1))"));
            due(1, place.replace("#", times("(", 8) + "1" + times(")", 7) + "*-(" + times("-", 5) + "|-1))"));
        }
    }

    private static void twentySigns() {
        check.says("20 signs between two in an exp");
        for (String place : EXPS) {
            for (String sign : "+ - * /".split(" ")) {
                due(0, place.replace("#", "1" + times(sign + "1", 20)));
                due(1, place.replace("#", "1" + times(sign + "1", 20) + "|" + sign + "1"));
                due(1, place.replace("#", "1" + times(sign + "1", 20) + "|" + sign));
            }
            due(0, place.replace("#", "1" + times("+1*1-1/1", 5)));
            for (String sign : "+ - * /".split(" ")) {
                due(1, place.replace("#", "1" + times("+1*1-1/1", 5) + "|" + sign + "1"));
            }
            due(0, place.replace("#", "-1" + times("--1", 20)));
            due(1, place.replace("#", "-1" + times("--1", 20) + "|--1"));
        }
    }

    /** The signs in parentheses are signs of the exp around them, too; the next exp has twenty of its own. */
    private static void twentySignsOfOneExp() {
        check.says("20 signs between two in an exp");
        for (String place : EXPS) {
            due(0, place.replace("#", "(1" + times("+1", 20) + ")"));
            due(1, place.replace("#", "(1" + times("+1", 20) + "|+1)"));
            due(0, place.replace("#", "1-(1" + times("+1", 18) + ")*1"));
            due(1, place.replace("#", "1-(1" + times("+1", 18) + ")*1|+1"));
            due(1, place.replace("#", "1-(1" + times("+1", 19) + ")|*1"));
        }
        String full = "=1" + times("+1", 20) + ";";
        due(0, "enum A{X{m" + full + "n" + full + "};def m" + full + "def n" + full + "field f" + full + "maker" + full + "}enum B{;field f" + full + "}");
        EnumRules x = Check.loaded("enum A{X;def m" + full + "}");
        check.due("all twenty count", x.call(0, 0, 0), 21);
    }

    // ---- names

    private static void firstOfOneName() {
        check.says("Of several ENUMS, CONSTANTS, FIELDS of one NAME the first one counts for NAMES in an exp");
        due(6, "enum A{X;def m=|A.Y;}enum A{Y}");
        due(2, "enum A{X;def m=A.X;}enum |A{Y}");
        due(6, "enum A{;def m=|A.Y;}enum A{Y}");
        due(5, "enum A{X;maker=|f;field f=1;const f=1;}");
        due(2, "enum A{X;maker=f;const f=1;field |f=1;}");
        due(2, "enum A{X;def m=A.X;def |X=1;}");
        due(2, "enum A{X,|X;def m=A.X;}");
    }

    private static void givenByItsName() {
        check.says("an abstract MEMBER is given by a give of its NAME.");
        due(0, "enum A{X{m=1;};abstract m;}");
        due(4, "enum A{|X{n=1;};abstract m;def n=1;}");
        due(4, "enum A{|X{mm=1;};abstract m;def mm=1;}");
        due(4, "enum A{|X{M=1;};abstract m;def M=1;}");
        due(4, "enum A{|X{abcdefghijkl=1;};abstract abcdefghijkm;def abcdefghijkl=1;}");
        due(0, "enum A{X{abcdefghijkl=1;};abstract abcdefghijkl;}");
    }

    // ---- fault 1

    private static final String ALL = "enum A { X ( 1 ) { m = - ( 1 + k ) * val ; n = A . X ; } , Y { n = place ; } , Z ( 2 ) { n = 1 - A . X ; } ; "
        + "def m = 1 / 2 - 3 ; abstract n ; field f = k ; const k = 5 ; maker = arg ; } enum B { X ; def o = A . Y ; } enum C { }";

    private static void firstPlace() {
        check.says("FAULT 1: at the first byte or token with which no text goes on");
        due(0, ALL);
        StringBuilder ahead = new StringBuilder();
        for (String token : ALL.split(" ")) {
            String behind = ALL.substring(ahead.length());
            due(1, ahead + "|# " + behind);
            due(1, ahead + "|abcdefghijklm " + behind);
            due(1, ahead + "|\u00ff# ] " + behind);
            due(1, ahead + (token.equals("enum") ? "enum |enum " : "|enum ") + behind);
            ahead.append(token).append(' ');
        }
        due(1, ahead + "|#");
        due(1, "enum A{X |Y}enum A{X Y}#");
    }

    /** Each token left out, put twice, and another one in its place, against the second reading of the document. */
    private static void otherTokens() {
        check.says("FAULT 1: at the first byte or token with which no text goes on");
        String[] tokens = ALL.split(" ");
        String[] others = ("{ } ( ) , ; = + - * / . X A q 7 # " + String.join(" ", WORDS)).split(" ");
        for (int k = 0; k < tokens.length; k++) {
            String was = tokens[k];
            tokens[k] = "";
            asModel(String.join(" ", tokens));
            tokens[k] = was + " " + was;
            asModel(String.join(" ", tokens));
            for (String other : others) {
                tokens[k] = other;
                asModel(String.join(" ", tokens));
                tokens[k] = other + " " + was;
                asModel(String.join(" ", tokens));
            }
            tokens[k] = was;
        }
    }

    private static void asModel(String text) {
        Model model = new Model();
        for (int at = 0; at < text.length(); at += 20) {
            model.feed(Check.four(text, at), Check.four(text, at + 4), Check.four(text, at + 8), Check.four(text, at + 12), Check.four(text, at + 16));
        }
        model.end(text.length());
        model.load();
        check.faultAt(model.fault(0), model.fault(1), text, text);
    }

    private static void missingNames() {
        check.says("FAULT 1: at the first byte or token with which no text goes on");
        due(1, "enum |{X}");
        due(1, "enum A{X}enum |{X}");
        due(1, "enum A{X{|=1;}}");
        due(1, "enum A{X;abstract |;}");
        due(1, "enum A{X;def |=1;}");
        due(1, "enum A{X;field |=1;}");
        due(1, "enum A{X;const |=1;}");
        due(1, "enum A{|(1)}");
        due(1, "enum A{|{}}");
        due(1, "enum A{X{m=|}");
        due(1, "enum A{X{m=1|}}");
        due(1, "enum A{X{m|,Y}");
        due(1, "enum A{X{|;def m=1;}");
        due(1, "enum A{X(1|,Y}");
        due(1, "enum A{X;def m=|.X;}");
        due(1, "enum A{X;def m=A.|;}");
    }

    private static void ninthNested() {
        check.says("(the 9th ( or -;");
        for (String place : EXPS) {
            String start = place.substring(0, place.indexOf('#'));
            due(1, start + times("(", 8) + "|");
            due(1, start + times("(", 8) + "|(");
            due(1, start + times("(", 8) + "|-");
            due(1, start + times("(", 8) + "|((((");
            due(1, start + times("-", 8) + "|");
            due(1, start + times("-", 8) + "|-");
            due(1, start + times("-", 8) + "|(#");
            due(1, start + times("( - \n", 4) + "|( 1");
            due(1, start + times("(1+", 8) + "|-1");
            due(1, start + times("(1+", 8) + "1-|-1");
            due(1, start + times("(1+", 8) + "1" + times(")", 8) + "|)");
            due(1, start + times("(", 7) + "|#");
        }
    }

    private static void twentyFirstSign() {
        check.says("the 21st sign between two;");
        for (String place : EXPS) {
            String start = place.substring(0, place.indexOf('#'));
            for (String sign : "+ - * /".split(" ")) {
                due(1, start + "1" + times("-1", 19) + sign + "|");
                due(1, start + "1" + times("-1", 19) + sign + "1|");
                due(1, start + "1" + times("-1", 19) + sign + "1|" + sign);
                due(1, start + "1" + times("-1", 19) + sign + "1\n |" + sign + " 1");
                due(1, start + "1" + times("-1", 19) + sign + "(1|" + sign + "1);");
            }
        }
    }

    private static void endsTooSoon() {
        check.says("at THE TAPE's length, if it ends too soon");
        StringBuilder ahead = new StringBuilder();
        int deep = 0;
        for (String token : ALL.split(" ")) {
            ahead.append(token);
            deep += token.equals("{") ? 1 : token.equals("}") ? -1 : 0;
            boolean whole = deep == 0 && token.equals("}");
            for (String blanks : new String[] {"", " ", "\n", " \n  "}) {
                due(whole ? 0 : 1, ahead + blanks + (whole ? "" : "|"));
            }
            ahead.append(' ');
        }
        due(0, "");
        due(0, "  ");
        due(1, "enum A{X" + times(" ", 1992) + "|");
        due(1, "enum A{X;def m=" + times("(", 8) + "|");
        due(1, "enum A{X;def m=1" + times("+1", 20) + "|");
        due(1, times("enum A#{}", 8) + "enum|");
    }

    private static void ninthEnum() {
        check.says("at the 9th ENUM's NAME");
        due(0, times("enum A#{}", 8));
        due(1, times("enum A#{}", 8) + "enum |A8{}");
        due(1, times("enum A#{}", 8) + "enum |A0{}");
        due(1, times("enum A#{}", 8) + "enum |A8");
        due(1, times("enum A{}", 8) + "enum |A{}");
        due(1, times("enum A#{}", 8) + "|A8");
        due(1, times("enum A#{}", 7) + "enum A7{;|,}enum A8{}");
        check.due("count(0) of eight", Check.loaded(times("enum A#{X}", 8)).count(0), 8);
    }

    private static void thirteenthConstant() {
        check.says("the 13th CONSTANT's of an ENUM");
        due(0, "enum A{" + times("C#,", 11) + "D}");
        due(1, "enum A{" + times("C#,", 12) + "|D}");
        due(1, "enum A{" + times("C#,", 12) + "|C0}");
        due(1, "enum A{" + times("C#,", 12) + "|}");
        due(1, "enum A{" + times("C,", 12) + "|C}");
        due(1, "enum A{" + times("C#(1){},", 12) + "|D(1){}}");
        due(0, times("enum A#{a,b,c,d,e,f,g,h,i,j,k,l}", 8));
        due(1, times("enum A#{a,b,c,d,e,f,g,h,i,j,k,l}", 7) + "enum A7{a,b,c,d,e,f,g,h,i,j,k,l,|m}");
    }

    private static void ninthMember() {
        check.says("the 9th MEMBER's (abstract or def)");
        for (String eight : new String[] {times("abstract m#;", 8), times("def m#=1;", 8), times("abstract a#;def d#=1;", 4)}) {
            due(0, "enum A{;" + eight + "}");
            due(1, "enum A{;" + eight + "abstract |x;}");
            due(1, "enum A{;" + eight + "def |x=1;}");
            due(1, "enum A{;" + eight + "def |x");
            due(0, "enum A{;" + eight + times("const k#=1;", 3) + times("field f#=1;", 3) + "maker=1;}enum B{;" + eight + "}");
        }
        due(1, "enum A{X;" + times("def X=1;", 8) + "def |X=1;}");
    }

    private static void seventhField() {
        check.says("the 7th FIELD's (field or const)");
        for (String six : new String[] {times("field f#=1;", 6), times("const f#=1;", 6), times("const a#=1;field d#=1;", 3)}) {
            due(0, "enum A{;" + six + "}");
            due(1, "enum A{;" + six + "field |x=1;}");
            due(1, "enum A{;" + six + "const |x=1;}");
            due(1, "enum A{;" + six + "const |x");
            due(0, "enum A{;" + six + times("def m#=1;", 8) + "maker=1;}enum B{;" + six + "}");
        }
        due(1, "enum A{X;" + times("const X=1;", 6) + "const |X=1;}");
    }

    private static void limitsTogether() {
        check.says("at the 9th ENUM's NAME, the 13th CONSTANT's of an ENUM, the 9th MEMBER's (abstract or def), the 7th FIELD's (field or const).");
        String[] enums = new String[8];
        StringBuilder text = new StringBuilder();
        for (int e = 0; e < enums.length; e++) {
            enums[e] = "enum A" + e + "{" + times("C#,", 11) + "D;" + times("def m#=1;", 8) + times("field f#=1;", 6) + "maker=arg;}";
            text.append(enums[e]);
        }
        due(0, text.toString());
        EnumRules x = Check.loaded(text.toString());
        check.due("enums", x.count(0), 8);
        for (int e = 0; e < enums.length; e++) {
            check.due("constants of " + e, x.told(e, 0), 12);
            check.due("members of " + e, x.told(e, 1), 8);
            check.due("fields of " + e, x.told(e, 2), 6);
        }
        due(1, "enum A{" + times("C#,", 12) + "|D;" + times("def m#=1;", 9) + "}");
        due(1, "enum A{;" + times("def m#=1;", 8) + "def |m=1;" + times("field f#=1;", 7) + "}");
        due(1, "enum A{;" + times("field f#=1;", 6) + "field |f=1;" + times("def m#=1;", 9) + "}");
    }

    // ---- the other faults

    private static final String[] FAULTY = {"enum P{X,|X}", "enum Q{X{|m=1;}}", "enum R{|X;abstract m;}", "enum S{X;field f=1;maker=|f;}", "enum T{X;def m=|q;}"};

    private static void faultOneIsAhead() {
        check.says("Else, at the least place, of several the least");
        for (String faulty : FAULTY) {
            due(1, faulty.replace("|", "") + "|#");
            due(1, faulty.replace("|", "") + "enum|");
            due(1, faulty.replace("|", "") + times("enum A#{}", 7) + "enum |B{}");
            due(1, "|#" + faulty.replace("|", ""));
        }
    }

    private static void leastPlace() {
        check.says("Else, at the least place, of several the least");
        for (int a = 0; a < FAULTY.length; a++) {
            due(a + 2, FAULTY[a]);
            due(a + 2, "enum G{X}" + FAULTY[a] + "enum H{}");
            for (int b = 0; b < FAULTY.length; b++) {
                if (a != b) {
                    due(a + 2, FAULTY[a] + FAULTY[b].replace("|", ""));
                    due(a + 2, "\n " + FAULTY[a] + "enum G{X}" + FAULTY[b].replace("|", ""));
                }
            }
        }
        due(4, "enum A{|X{m=arg;q=1;};def m=q;abstract n;maker=val;}");
        due(6, "enum A{X{m=|arg;m=1;q=1;};def m=q;maker=val;}");
        due(2, "enum A{X{m=1;|m=arg;q=1;};def m=q;maker=val;}");
        due(3, "enum A{X{m=1;|q=arg;m=1;};def m=q;maker=val;}");
        due(6, "enum A{X;def m=|q;maker=f;field f=val;}enum A{}");
        due(5, "enum A{X;maker=|f+val;field f=val;}enum A{}");
        due(6, "enum A{X;maker=|val+f;field f=val;}enum A{}");
    }

    private static void leastOfSeveral() {
        check.says("of several the least");
        due(2, "enum A{X{m=1;},|X;abstract m;}");
        due(2, "enum A{X{m=1;},|X{};abstract m;}");
        due(4, "enum A{|X,X;abstract m;}");
    }

    private static void enumToldBefore() {
        check.says("2 a NAME that was told before: of an ENUM");
        due(2, "enum A{}enum |A{}");
        due(2, "enum A{}enum |A{}enum A{}");
        due(2, times("enum A#{}", 7) + "enum |A6{}");
        due(2, times("enum A#{}", 7) + "enum |A0{}");
        due(2, "enum abcdefghijkl{}enum |abcdefghijkl{}");
        due(0, "enum abcdefghijkl{}enum abcdefghijkm{}enum abcdefghijk{}");
        due(0, "enum A{}enum a{}enum AA{}enum A1{}");
        due(0, "enum A{A}enum B{A,B;def C=1;}enum C{}");
    }

    private static void namesToldBefore() {
        check.says("of a CONSTANT, MEMBER or FIELD of its ENUM (these together)");
        String[] told = {"abstract #;", "def #=1;", "field #=1;", "const #=1;"};
        for (String first : told) {
            for (String second : told) {
                due(2, "enum A{;" + first.replace("#", "n") + second.replace("#", "|n") + "}");
                due(2, "enum A{;" + first.replace("#", "n") + "def o=1;const p=1;" + second.replace("#", "|n") + "}");
                due(0, "enum A{;" + first.replace("#", "n") + second.replace("#", "N") + "}");
                due(0, "enum A{;" + first.replace("#", "n") + "}enum B{;" + second.replace("#", "n") + "}");
            }
        }
        due(2, "enum A{X,|X}");
        due(2, "enum A{" + times("C#,", 11) + "|C0}");
        due(2, "enum A{" + times("C#,", 11) + "|C10}");
        due(2, "enum A{X{X=1;};abstract |X;}");
        due(2, "enum A{X;def |X=1;}");
        due(2, "enum A{X;field |X=1;}");
        due(2, "enum A{X;const |X=1;}");
        due(2, "enum A{" + times("C#,", 11) + "X;" + times("def m#=1;", 8) + times("const k#=1;", 5) + "const |X=1;}");
        due(2, "enum A{" + times("C#,", 11) + "X;" + times("const k#=1;", 6) + times("def m#=1;", 7) + "def |C0=1;}");
        due(2, "enum A{" + times("C#,", 11) + "X;" + times("const k#=1;", 6) + times("def m#=1;", 7) + "def |k5=1;}");
        due(0, "enum A{X,x,XX,X1}enum B{X,x,XX,X1}");
    }

    private static void giveToldBefore() {
        check.says("of a give of its body");
        due(2, "enum A{X{m=1;|m=1;};def m=1;}");
        due(2, "enum A{X{m=1;n=1;|m=1;};def m=1;abstract n;}");
        due(2, "enum A{X{m=1;},Y{m=1;|m=1;};abstract m;}");
        due(0, "enum A{X{m=1;},Y{m=1;};abstract m;}enum B{X{m=1;};def m=1;}");
        due(2, "enum A{X{" + times("m#=1;", 8) + "|m7=1;};" + times("def m#=1;", 8) + "}");
        due(2, "enum A{X{" + times("m#=1;", 8) + "|m0=1;};" + times("def m#=1;", 8) + "}");
    }

    private static void secondMaker() {
        check.says("a second 'maker'.");
        due(0, "enum A{X;maker=1;}enum B{X;maker=1;}");
        due(2, "enum A{X;maker=1;|maker=1;}");
        due(2, "enum A{X;maker=1;def m=1;|maker=2;maker=3;}");
        due(2, "enum A{;maker=1;|maker=1;}");
        due(2, "enum A{X;maker=1;}enum B{X;maker=1;|maker=1;}");
    }

    private static void giveOfNoMember() {
        check.says("3 a give of no MEMBER of the ENUM (wherever that is told).");
        due(3, "enum A{X{|m=1;}}");
        due(3, "enum A{X{|m=1;};}");
        due(0, "enum A{X{m=1;};const k=1;field f=1;maker=1;def m=1;}");
        due(0, "enum A{X{m7=1;};" + times("def m#=1;", 8) + "}");
        due(3, "enum A{X{|m8=1;};" + times("def m#=1;", 8) + "}");
        due(3, "enum A{X{|k=1;};const k=1;def m=1;}");
        due(3, "enum A{X{|f=1;};field f=1;def m=1;}");
        due(3, "enum A{X{|X=1;};def m=1;}");
        due(3, "enum A{X{|A=1;};def m=1;}");
        due(3, "enum A{X;def m=1;}enum B{X{|m=1;}}enum C{X;def m=1;}");
        due(3, "enum A{X{m=1;|n=1;};def m=1;}");
        due(3, "enum A{X{|M=1;};def m=1;}");
        due(3, "enum A{X{|m=1;m=1;}}");
    }

    private static void abstractNotGiven() {
        check.says("4 a CONSTANT (at its NAME) by which some abstract MEMBER is not given.");
        due(0, "enum A{;abstract m;}");
        due(4, "enum A{|X;abstract m;}");
        due(4, "enum A{|X{};abstract m;}");
        due(4, "enum A{|X(1),Y;abstract m;}");
        due(0, "enum A{X;def m=1;}");
        String all = "{" + times("m#=1;", 8) + "}";
        String seven = "{" + times("m#=1;", 7) + "}";
        String abstracts = times("abstract m#;", 8);
        due(0, "enum A{X" + all + ",Y" + all + ";" + abstracts + "}");
        due(4, "enum A{X" + all + ",|Y" + seven + ";" + abstracts + "}");
        due(4, "enum A{|X" + seven + ",Y" + all + ";" + abstracts + "}");
        due(0, "enum A{" + times("C#{m=1;},", 11) + "D{m=1;};abstract m;}");
        due(4, "enum A{" + times("C#{m=1;},", 11) + "|D{};abstract m;}");
        due(4, "enum A{X{m=1;};abstract m;}enum B{|X;abstract m;}");
        due(4, "enum A{X{m=1;},|Y;def o=1;const k=1;abstract m;}");
    }

    private static void fieldInMaker() {
        check.says("5 in a maker: a NAME alone of a FIELD by 'field'.");
        due(5, "enum A{X;field f=1;maker=|f;}");
        due(5, "enum A{X;maker=|f;field f=1;}");
        due(5, "enum A{;maker=1+(2*-|f);field f=1;}");
        due(0, "enum A{X;const f=1;maker=f;}");
        due(0, "enum A{X;maker=f;const f=1;}");
        due(0, "enum A{X;field X1=1;maker=A.X;}");
        due(0, "enum A{X;field f=1;field g=f;def m=f;}");
        due(0, "enum A{X;field f=1;}enum B{X;const f=1;maker=f;}");
        due(6, "enum A{X;field f=1;}enum B{X;maker=|f;}");
        due(5, "enum A{X;" + times("const k#=1;", 5) + "field f=1;maker=k0+k4+|f;}");
    }

    private static void nameOfNoField() {
        check.says("6 in an exp: a NAME alone of no FIELD of its ENUM");
        for (String place : EXPS) {
            for (String none : "g X m A B k Y".split(" ")) {
                due(6, place.replace("#", "|" + none) + "enum B{Y;const k=1;field g=1;}");
            }
            String withField = place.substring(0, place.length() - 1) + "const k=1;}";
            due(0, withField.replace("#", "k"));
            due(0, withField.replace("#", "1+(k*-k)"));
            due(6, withField.replace("#", "1+(k*-|K)"));
            due(6, withField.replace("#", "|kk"));
        }
        due(0, "enum A{X;field f=g;field g=f;}");
        due(0, "enum A{X;field f=f;}");
    }

    private static void nameOfNoConstant() {
        check.says("NAME.NAME (at the first) of no CONSTANT of that ENUM, or there is no such ENUM (anywhere in the text)");
        for (String place : EXPS) {
            due(0, place.replace("#", "A.X"));
            due(0, place.replace("#", "B.Y") + "enum B{X,Y}");
            due(0, place.replace("#", "H.L") + times("enum A#{}", 6) + "enum H{a,b,c,d,e,f,g,h,i,j,k,L}");
            due(0, "enum B{X,Y}" + place.replace("#", "B . Y"));
            due(6, place.replace("#", "|B.Z") + "enum B{X,Y}");
            due(6, place.replace("#", "1+|C.X") + "enum B{X,Y}");
            due(6, place.replace("#", "|B.X") + "enum B{}");
            due(6, place.replace("#", "|A.m"));
            due(6, place.replace("#", "|B.k") + "enum B{X;const k=1;}");
            due(6, place.replace("#", "|X.X"));
            due(6, place.replace("#", "|a.X"));
            due(6, place.replace("#", "|A.x"));
            due(6, place.replace("#", "A.X+|A \n . \n Y"));
        }
    }

    private static void wordsOutOfPlace() {
        check.says("'arg' not in a maker; 'val', 'place' in a field, 'val' in a maker.");
        String[] give = {"|arg", "val", "place"};
        String[] field = {"|arg", "|val", "|place"};
        String[] maker = {"arg", "|val", "place"};
        String[][] rows = {give, give, field, maker};
        for (int k = 0; k < EXPS.length; k++) {
            for (String word : rows[k]) {
                int fault = word.startsWith("|") ? 6 : 0;
                due(fault, EXPS[k].replace("#", word));
                due(fault, EXPS[k].replace("#", "1-(2*-" + word + ")"));
                due(fault, "enum Z{X;maker=arg;def m=val;}" + EXPS[k].replace("#", word));
            }
        }
    }
}
