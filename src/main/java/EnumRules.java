/** Enumerations that are told by texts and start when they are first wanted; ../shared/DOC.md has the promises. */
public final class EnumRules {
    public static final int UNKNOWN = -1000001, OUTSIDE = -1000002, ROOM = -1000004, NONE = -1000009;

    private static final int TAPE_BYTES = 2000, FEED_BYTES = 20, NAME_LETTERS = 12, NUMBER_DIGITS = 9;
    private static final int ENUMS = 8, CONSTANTS = 12, MEMBERS = 8, FIELDS = 6;
    private static final int NESTED = 8, SIGNS = 20, TRACE_ROWS = 200;
    private static final int MISSING = -1;

    private static final int BY_NULL = 1, BY_ARITHMETIC = 2, BY_ARGUMENT = 3, BY_INDEX = 4, BY_CAST = 5, BY_GONE = 6;

    private static final int FAULT_TEXT = 1, FAULT_TWICE = 2, FAULT_NO_MEMBER = 3, FAULT_NOT_GIVEN = 4;
    private static final int FAULT_EARLY_FIELD = 5, FAULT_MEANINGLESS = 6;

    // The first three are the numbers that told() answers; no call ever sees the fourth.
    private static final int NOT_STARTED = 0, DONE = 1, FAILED = 2, IN_WORK = 3;

    private Program loaded = new Program();
    private Program spare = new Program();
    private Tape tape = new Tape();
    private final Faults faults = new Faults();
    private final Parser parser = new Parser();
    private final Binder binder = new Binder();
    private final Runner runner = new Runner();
    private final int[] handPlaces = new int[CONSTANTS];
    private int handEnum;
    private int handSize;
    private int lastCause;
    private int failedCalls;

    public EnumRules() {
        loaded.begin(new Tape());
    }

    public int feed(int a, int b, int c, int d, int e) {
        if (tape.length > TAPE_BYTES - FEED_BYTES) {
            return ROOM;
        }
        tape.append(a);
        tape.append(b);
        tape.append(c);
        tape.append(d);
        tape.append(e);
        return tape.length;
    }

    public int end(int n) {
        if (n < 0 || n > tape.length) {
            return OUTSIDE;
        }
        tape.length = n;
        return n;
    }

    public int load() {
        faults.forget();
        spare.begin(tape);
        if (parser.readText(spare, faults)) {
            binder.bind(spare, faults);
        }
        if (faults.number != 0) {
            tape.length = 0;
            return -10 - faults.number;
        }
        takeSpare();
        return loaded.size;
    }

    /** The loaded program keeps its text for its names, so the tapes change places together with the programs. */
    private void takeSpare() {
        Program old = loaded;
        loaded = spare;
        spare = old;
        tape = old.text;
        tape.length = 0;
        runner.traceSize = 0;
        handSize = 0;
    }

    public int fault(int what) {
        if (what < 0 || what > 1) {
            return OUTSIDE;
        }
        if (what == 0) {
            return faults.number;
        }
        return faults.number == 0 ? NONE : faults.place;
    }

    public int cause() {
        return lastCause;
    }

    public int told(int e, int what) {
        Enumeration it = loaded.enumAt(e);
        if (it == null) {
            return UNKNOWN;
        }
        switch (what) {
            case 0: return it.constants;
            case 1: return it.members;
            case 2: return it.worked;
            case 3: return it.fields - it.worked;
            case 4: return it.state;
            default: return OUTSIDE;
        }
    }

    public int hasBody(int e, int c) {
        Enumeration it = loaded.enumAt(e);
        if (it == null || !it.hasConstant(c)) {
            return UNKNOWN;
        }
        return it.bodies[c] ? 1 : 0;
    }

    public int value(int e, int c) {
        Enumeration it = loaded.enumAt(e);
        if (it == null || !it.hasConstant(c)) {
            return UNKNOWN;
        }
        runner.begin(loaded);
        runner.want(e, 0);
        return finish(it.vals[c]);
    }

    public int call(int e, int c, int m) {
        Enumeration it = loaded.enumAt(e);
        if (it == null || !it.hasConstant(c) || !it.hasMember(m)) {
            return UNKNOWN;
        }
        runner.begin(loaded);
        int answer = 0;
        if (runner.want(e, 0)) {
            answer = runner.work(it.codeOf(c, m), it, c, 0);
        }
        return finish(answer);
    }

    public int field(int e, int f) {
        Enumeration it = loaded.enumAt(e);
        if (it == null || !it.hasField(f)) {
            return UNKNOWN;
        }
        runner.begin(loaded);
        if (it.isWorked(f)) {
            runner.want(e, 0);
        }
        return finish(it.fieldNumbers[f]);
    }

    public int compare(int e, int c, int f, int d) {
        Enumeration first = loaded.enumAt(e);
        Enumeration second = loaded.enumAt(f);
        if (first == null || second == null || !first.hasConstant(c) || !second.hasConstant(d)) {
            return UNKNOWN;
        }
        runner.begin(loaded);
        if (runner.want(e, 0) && runner.want(f, 0) && e != f) {
            runner.failBy(BY_CAST);
        }
        return finish(c < d ? 1 : c == d ? 2 : 3);
    }

    public int values(int e) {
        Enumeration it = loaded.enumAt(e);
        if (it == null) {
            return UNKNOWN;
        }
        runner.begin(loaded);
        if (runner.want(e, 0)) {
            takeInHand(e, it.constants);
        }
        return finish(it.constants);
    }

    private void takeInHand(int e, int size) {
        handEnum = e;
        handSize = Math.min(size, handPlaces.length);
        for (int k = 0; k < handSize; k++) {
            handPlaces[k] = k;
        }
    }

    public int swap(int i, int j) {
        if (!isInHand(i) || !isInHand(j)) {
            return OUTSIDE;
        }
        int held = handPlaces[i];
        handPlaces[i] = handPlaces[j];
        handPlaces[j] = held;
        return 1;
    }

    public int hand(int i) {
        runner.begin(loaded);
        Enumeration it = loaded.enumAt(handEnum);
        if (it == null || !isInHand(i) || !it.hasConstant(handPlaces[i])) {
            runner.failBy(BY_INDEX);
            return finish(0);
        }
        return finish(it.vals[handPlaces[i]]);
    }

    private boolean isInHand(int i) {
        return i >= 0 && i < handSize && i < handPlaces.length;
    }

    public int named(int e) {
        Enumeration it = loaded.enumAt(e);
        if (it == null) {
            return UNKNOWN;
        }
        runner.begin(loaded);
        int place = 0;
        if (runner.want(e, 0)) {
            place = lookFor(it);
        }
        tape.length = 0;
        return finish(place);
    }

    private int lookFor(Enumeration it) {
        if (tape.length == 0) {
            runner.failBy(BY_NULL);
            return 0;
        }
        for (int c = 0; c < it.constants; c++) {
            int name = it.constantNames[c];
            if (loaded.text.nameLength(name) == tape.length && tape.same(0, loaded.text, name, tape.length)) {
                return c;
            }
        }
        runner.failBy(BY_ARGUMENT);
        return 0;
    }

    public int trace(int k) {
        return k < 0 || k >= runner.traceSize || k >= TRACE_ROWS ? NONE : runner.traceRows[k];
    }

    public int count(int what) {
        switch (what) {
            case 0: return loaded.size;
            case 1: return runner.traceSize;
            case 2: return handSize;
            case 3: return tape.length;
            case 4: return failedCalls;
            default: return OUTSIDE;
        }
    }

    public int clear() {
        int had = loaded.size;
        loaded.begin(loaded.text);
        tape.length = 0;
        faults.forget();
        runner.traceSize = 0;
        handSize = 0;
        lastCause = 0;
        failedCalls = 0;
        return had;
    }

    /** The answer of a call that may fail: its own, or 0 if anything in it has failed. */
    private int finish(int answer) {
        lastCause = runner.failure;
        if (lastCause == 0) {
            return answer;
        }
        failedCalls++;
        return 0;
    }

    /** Bytes of a text: those that came by feed(), or those that a program was read from. */
    private static final class Tape {
        final byte[] bytes = new byte[TAPE_BYTES];
        int length;

        void append(int number) {
            for (int shift = 24; shift >= 0; shift -= 8) {
                if (length < bytes.length) {
                    bytes[length] = (byte) (number >> shift);
                    length++;
                }
            }
        }

        /** MISSING is no letter, digit or sign: who reads on behind the end stops by himself. */
        int byteAt(int place) {
            return place < 0 || place >= length || place >= bytes.length ? MISSING : bytes[place] & 255;
        }

        boolean isLetterAt(int place) {
            int letter = byteAt(place);
            return letter >= 'a' && letter <= 'z' || letter >= 'A' && letter <= 'Z';
        }

        boolean isDigitAt(int place) {
            int digit = byteAt(place);
            return digit >= '0' && digit <= '9';
        }

        /** Not cut at the most that a name may have: a longer run is no name at all, not two names. */
        int nameLength(int place) {
            int run = 0;
            while (run < length && (isLetterAt(place + run) || isDigitAt(place + run))) {
                run++;
            }
            return run;
        }

        int numberLength(int place) {
            int run = 0;
            while (run < NUMBER_DIGITS && isDigitAt(place + run)) {
                run++;
            }
            return run;
        }

        int numberAt(int place) {
            int digits = numberLength(place);
            int number = 0;
            for (int k = 0; k < digits; k++) {
                number = number * 10 + (byteAt(place + k) - '0');
            }
            return number;
        }

        boolean same(int place, Tape other, int otherPlace, int many) {
            for (int k = 0; k < many; k++) {
                if (byteAt(place + k) != other.byteAt(otherPlace + k)) {
                    return false;
                }
            }
            return true;
        }

        boolean spells(int place, int many, String word) {
            if (many != word.length()) {
                return false;
            }
            for (int k = 0; k < word.length(); k++) {
                if (byteAt(place + k) != word.charAt(k)) {
                    return false;
                }
            }
            return true;
        }

        /** Which of the names (told by their places) is the first that reads like the one at a place. */
        int firstNamed(int place, int[] names, int many) {
            int letters = nameLength(place);
            for (int k = 0; k < many && k < names.length; k++) {
                if (same(place, this, names[k], letters) && nameLength(names[k]) == letters) {
                    return k;
                }
            }
            return MISSING;
        }
    }

    /** The tokens of a text, and the one that is to be read now; a sign's kind is its byte. */
    private static final class Tokens {
        static final int NAME = 128, NUMBER = 129, FINISH = 130, BAD = 131;
        static final int ENUM = 132, ABSTRACT = 133, DEF = 134, FIELD = 135, CONST = 136, MAKER = 137;
        static final int ARG = 138, VAL = 139, PLACE = 140;
        static final int KINDS = 256, PLACES = 4096;
        static final String SIGN_BYTES = "{}(),;=+-*/.";

        // Kind, place and number in one; a row more than bytes, for FINISH.
        final long[] rows = new long[TAPE_BYTES + 1];
        int size;
        int next;
        int kind;
        int place;
        int number;

        void split(Tape text) {
            size = 0;
            int from = 0;
            for (int k = 0; k < TAPE_BYTES && from < text.length; k++) {
                from += addAt(text, from);
            }
            add(FINISH, text.length, 0);
            next = MISSING;
            advance();
        }

        /** How many bytes it went over: at least one, so that split comes to its end. */
        private int addAt(Tape text, int from) {
            int first = text.byteAt(from);
            if (first == ' ' || first == '\n') {
                return 1;
            }
            if (text.isLetterAt(from)) {
                int letters = text.nameLength(from);
                add(letters > NAME_LETTERS ? BAD : wordOrName(text, from, letters), from, 0);
                return letters;
            }
            if (text.isDigitAt(from)) {
                add(NUMBER, from, text.numberAt(from));
                return text.numberLength(from);
            }
            add(first >= 0 && SIGN_BYTES.indexOf((char) first) >= 0 ? first : BAD, from, 0);
            return 1;
        }

        private int wordOrName(Tape text, int from, int letters) {
            if (text.spells(from, letters, "enum")) return ENUM;
            if (text.spells(from, letters, "abstract")) return ABSTRACT;
            if (text.spells(from, letters, "def")) return DEF;
            if (text.spells(from, letters, "field")) return FIELD;
            if (text.spells(from, letters, "const")) return CONST;
            if (text.spells(from, letters, "maker")) return MAKER;
            if (text.spells(from, letters, "arg")) return ARG;
            if (text.spells(from, letters, "val")) return VAL;
            if (text.spells(from, letters, "place")) return PLACE;
            return NAME;
        }

        private void add(int itsKind, int itsPlace, int itsNumber) {
            if (size < rows.length) {
                rows[size] = ((long) itsNumber * PLACES + itsPlace) * KINDS + itsKind;
                size++;
            }
        }

        /** Always true, so that it can stand in a chain with what may stop. */
        boolean advance() {
            next++;
            if (next >= 0 && next < size && next < rows.length) {
                long row = rows[next];
                kind = (int) (row % KINDS);
                place = (int) (row / KINDS % PLACES);
                number = (int) (row / KINDS / PLACES);
            }
            return true;
        }

        boolean take(int wanted) {
            return kind == wanted && advance();
        }
    }

    /** What the code of a program is made of: an exp in postfix order up to STOP, and marks for the Binder. */
    private static final class Op {
        static final int STOP = 0, NUMBER = 1, FIELD = 2, CONSTANT = 3, ARG = 4, VAL = 5, PLACE = 6;
        static final int NEGATE = 7, ADD = 8, SUBTRACT = 9, MULTIPLY = 10, DIVIDE = 11;
        static final int IN_ENUM = 12, IN_BODY = 13, IN_GIVE = 14, IN_MAKER = 15;
        static final int OPS = 16;
    }

    /** The enumerations of one text, its code, and the text itself, in which the names stand. */
    private static final class Program {
        final Enumeration[] enums = new Enumeration[ENUMS];
        final int[] enumNames = new int[ENUMS];
        // Every op comes of a token of its own, so there are never more than bytes.
        final long[] code = new long[TAPE_BYTES];
        int size;
        int codeSize;
        Tape text;

        Program() {
            for (int k = 0; k < enums.length; k++) {
                enums[k] = new Enumeration();
            }
        }

        void begin(Tape itsText) {
            text = itsText;
            size = 0;
            codeSize = 0;
        }

        Enumeration addEnum(int name) {
            if (size >= enums.length || size >= enumNames.length) {
                return null;
            }
            enumNames[size] = name;
            enums[size].begin();
            size++;
            return enums[size - 1];
        }

        Enumeration enumAt(int e) {
            return e < 0 || e >= size || e >= enums.length ? null : enums[e];
        }

        boolean put(int op, int operand) {
            if (codeSize >= code.length) {
                return false;
            }
            code[codeSize] = (long) operand * Op.OPS + op;
            codeSize++;
            return true;
        }

        void bindTo(int index, int operand) {
            if (index >= 0 && index < codeSize && index < code.length) {
                code[index] = (long) operand * Op.OPS + opAt(index);
            }
        }

        int opAt(int index) {
            return index < 0 || index >= codeSize || index >= code.length ? Op.STOP : (int) (code[index] % Op.OPS);
        }

        int operandAt(int index) {
            return index < 0 || index >= codeSize || index >= code.length ? 0 : (int) (code[index] / Op.OPS);
        }
    }

    /** One enumeration: what the text tells of it, and how far it has come since it was loaded. */
    private static final class Enumeration {
        final int[] constantNames = new int[CONSTANTS];
        final int[] args = new int[CONSTANTS];
        final boolean[] bodies = new boolean[CONSTANTS];
        final int[] giveCodes = new int[CONSTANTS * MEMBERS];
        final int[] memberNames = new int[MEMBERS];
        final int[] defCodes = new int[MEMBERS];
        final int[] fieldNames = new int[FIELDS];
        final int[] fieldCodes = new int[FIELDS];
        final int[] fieldNumbers = new int[FIELDS];
        final int[] vals = new int[CONSTANTS];
        // All three sorts together, as they are told: no two of them may be the same.
        final int[] names = new int[CONSTANTS + MEMBERS + FIELDS];
        int namesSize;
        int constants;
        int members;
        int fields;
        int worked;
        int makerCode;
        int state;
        int made;

        void begin() {
            namesSize = 0;
            constants = 0;
            members = 0;
            fields = 0;
            worked = 0;
            makerCode = MISSING;
            state = NOT_STARTED;
            made = 0;
        }

        private void addName(int name) {
            if (namesSize < names.length) {
                names[namesSize] = name;
                namesSize++;
            }
        }

        boolean addConstant(int name) {
            if (constants >= CONSTANTS) {
                return false;
            }
            addName(name);
            constantNames[constants] = name;
            args[constants] = 0;
            bodies[constants] = false;
            vals[constants] = 0;
            for (int m = 0; m < MEMBERS; m++) {
                giveCodes[constants * MEMBERS + m] = MISSING;
            }
            constants++;
            return true;
        }

        /** MISSING as its code makes it abstract. */
        boolean addMember(int name, int code) {
            if (members >= MEMBERS) {
                return false;
            }
            addName(name);
            memberNames[members] = name;
            defCodes[members] = code;
            members++;
            return true;
        }

        /** MISSING as its code makes it one by 'const'; the others are 0 until they are set. */
        boolean addField(int name, int code) {
            if (fields >= FIELDS) {
                return false;
            }
            addName(name);
            fieldNames[fields] = name;
            fieldCodes[fields] = code;
            fieldNumbers[fields] = 0;
            fields++;
            if (code != MISSING) {
                worked++;
            }
            return true;
        }

        boolean hasConstant(int c) {
            return c >= 0 && c < constants && c < CONSTANTS;
        }

        boolean hasMember(int m) {
            return m >= 0 && m < members && m < MEMBERS;
        }

        boolean hasField(int f) {
            return f >= 0 && f < fields && f < FIELDS;
        }

        boolean isWorked(int f) {
            return hasField(f) && fieldCodes[f] != MISSING;
        }

        boolean isAbstract(int m) {
            return hasMember(m) && defCodes[m] == MISSING;
        }

        int giveCode(int c, int m) {
            return hasConstant(c) && hasMember(m) ? giveCodes[c * MEMBERS + m] : MISSING;
        }

        int codeOf(int c, int m) {
            int code = giveCode(c, m);
            return code == MISSING && hasMember(m) ? defCodes[m] : code;
        }
    }

    /** The fault of the latest load: of all that are noted, the one at the least place. */
    private static final class Faults {
        int number;
        int place;

        void forget() {
            number = 0;
            place = 0;
        }

        void note(int itsNumber, int itsPlace) {
            if (number == 0 || itsPlace < place || itsPlace == place && itsNumber < number) {
                number = itsNumber;
                place = itsPlace;
            }
        }

        /** A text that is none has no other fault, wherever that would stand. */
        void noteText(int itsPlace) {
            number = FAULT_TEXT;
            place = itsPlace;
        }
    }

    /**
     * Reads a text by its grammar. Each read method answers whether the text goes on; where it does not, the token at
     * which it stops is left as the one to be read, so that its place is the fault's.
     */
    private static final class Parser {
        final Tokens tokens = new Tokens();
        final ExpReader exps = new ExpReader();
        Program program;
        Faults faults;
        Enumeration open;

        boolean readText(Program into, Faults itsFaults) {
            program = into;
            faults = itsFaults;
            tokens.split(into.text);
            exps.begin(tokens, into, itsFaults);
            boolean goesOn = true;
            for (int k = 0; k <= ENUMS && goesOn; k++) {
                if (tokens.kind == Tokens.FINISH) {
                    return true;
                }
                goesOn = tokens.take(Tokens.ENUM) && openEnum() && tokens.take('{')
                    && readConstants() && readMembers() && tokens.take('}');
            }
            faults.noteText(tokens.place);
            return false;
        }

        private boolean openEnum() {
            if (tokens.kind != Tokens.NAME || program.size >= ENUMS) {
                return false;
            }
            program.put(Op.IN_ENUM, program.size);
            open = program.addEnum(tokens.place);
            return open != null && tokens.advance();
        }

        private boolean readConstants() {
            if (tokens.kind != Tokens.NAME) {
                return true;
            }
            for (int k = 0; k <= CONSTANTS; k++) {
                if (tokens.kind != Tokens.NAME || !open.addConstant(tokens.place)) {
                    return false;
                }
                if (!(tokens.advance() && readArg() && readBody())) {
                    return false;
                }
                if (tokens.kind != ',') {
                    return true;
                }
                tokens.advance();
            }
            return false;
        }

        private boolean readArg() {
            if (tokens.kind != '(') {
                return true;
            }
            tokens.advance();
            int c = open.constants - 1;
            if (open.hasConstant(c)) {
                open.args[c] = tokens.number;
            }
            return tokens.take(Tokens.NUMBER) && tokens.take(')');
        }

        private boolean readBody() {
            if (tokens.kind != '{') {
                return true;
            }
            tokens.advance();
            int c = open.constants - 1;
            if (open.hasConstant(c)) {
                open.bodies[c] = true;
            }
            program.put(Op.IN_BODY, c);
            for (int k = 0; k < TAPE_BYTES && tokens.kind == Tokens.NAME; k++) {
                program.put(Op.IN_GIVE, tokens.place);
                tokens.advance();
                if (!(tokens.take('=') && exps.read(ExpReader.IN_MEMBER) && tokens.take(';'))) {
                    return false;
                }
            }
            return tokens.take('}');
        }

        private boolean readMembers() {
            if (tokens.kind != ';') {
                return true;
            }
            tokens.advance();
            boolean goesOn = true;
            for (int k = 0; k < TAPE_BYTES && goesOn; k++) {
                switch (tokens.kind) {
                    case Tokens.ABSTRACT: goesOn = readAbstract(); break;
                    case Tokens.DEF: goesOn = readDef(); break;
                    case Tokens.FIELD: goesOn = readField(); break;
                    case Tokens.CONST: goesOn = readConst(); break;
                    case Tokens.MAKER: goesOn = readMaker(); break;
                    default: return true;
                }
            }
            return goesOn;
        }

        private boolean readAbstract() {
            tokens.advance();
            if (tokens.kind != Tokens.NAME || !open.addMember(tokens.place, MISSING)) {
                return false;
            }
            return tokens.advance() && tokens.take(';');
        }

        private boolean readDef() {
            tokens.advance();
            if (tokens.kind != Tokens.NAME || !open.addMember(tokens.place, program.codeSize)) {
                return false;
            }
            return tokens.advance() && tokens.take('=') && exps.read(ExpReader.IN_MEMBER) && tokens.take(';');
        }

        private boolean readField() {
            tokens.advance();
            if (tokens.kind != Tokens.NAME || !open.addField(tokens.place, program.codeSize)) {
                return false;
            }
            return tokens.advance() && tokens.take('=') && exps.read(ExpReader.IN_FIELD) && tokens.take(';');
        }

        private boolean readConst() {
            tokens.advance();
            if (tokens.kind != Tokens.NAME || !open.addField(tokens.place, MISSING)) {
                return false;
            }
            if (!(tokens.advance() && tokens.take('='))) {
                return false;
            }
            int f = open.fields - 1;
            if (open.hasField(f)) {
                open.fieldNumbers[f] = tokens.number;
            }
            return tokens.take(Tokens.NUMBER) && tokens.take(';');
        }

        private boolean readMaker() {
            if (open.makerCode != MISSING) {
                faults.note(FAULT_TWICE, tokens.place);
            }
            program.put(Op.IN_MAKER, 0);
            open.makerCode = program.codeSize;
            return tokens.advance() && tokens.take('=') && exps.read(ExpReader.IN_MAKER) && tokens.take(';');
        }
    }

    /** Reads an exp and puts it behind the code; signs wait on a pile until what they stand for can be put. */
    private static final class ExpReader {
        // Where the exp stands: that says which words it may have.
        static final int IN_MEMBER = 0, IN_FIELD = 1, IN_MAKER = 2;
        // A parenthesis is no op: on the pile alone it keeps what waits outside of it from being put.
        static final int OPEN = MISSING;
        static final int JOINS_LOOSELY = 1, JOINS_CLOSELY = 2, BINDS_ONE = 3;

        // On each level one + or - and one * or / may wait, beside all that are nested.
        final int[] pile = new int[NESTED + 2 * (NESTED + 1)];
        Tokens tokens;
        Program program;
        Faults faults;
        int sort;
        int waiting;
        int opened;
        int nested;
        int signs;

        void begin(Tokens itsTokens, Program into, Faults itsFaults) {
            tokens = itsTokens;
            program = into;
            faults = itsFaults;
        }

        boolean read(int itsSort) {
            sort = itsSort;
            waiting = 0;
            opened = 0;
            nested = 0;
            signs = 0;
            for (int k = 0; k <= SIGNS; k++) {
                if (!(readNesting() && readOne() && readClosing())) {
                    return false;
                }
                int op = joiningOp();
                if (op == MISSING) {
                    return finishExp();
                }
                if (!readSign(op)) {
                    return false;
                }
            }
            return false;
        }

        private boolean readNesting() {
            for (int k = 0; k <= NESTED && (tokens.kind == '(' || tokens.kind == '-'); k++) {
                if (nested >= NESTED) {
                    return false;
                }
                nested++;
                if (tokens.kind == '(') {
                    opened++;
                }
                pushWaiting(tokens.kind == '(' ? OPEN : Op.NEGATE);
                tokens.advance();
            }
            return true;
        }

        private boolean readOne() {
            switch (tokens.kind) {
                case Tokens.NUMBER: return program.put(Op.NUMBER, tokens.number) && tokens.advance();
                case Tokens.NAME: return readName();
                case Tokens.ARG: return readWord(Op.ARG, sort == IN_MAKER);
                case Tokens.VAL: return readWord(Op.VAL, sort == IN_MEMBER);
                case Tokens.PLACE: return readWord(Op.PLACE, sort != IN_FIELD);
                default: return false;
            }
        }

        private boolean readName() {
            int name = tokens.place;
            tokens.advance();
            if (tokens.kind != '.') {
                return program.put(Op.FIELD, name);
            }
            tokens.advance();
            return tokens.kind == Tokens.NAME && program.put(Op.CONSTANT, name * Tokens.PLACES + tokens.place)
                && tokens.advance();
        }

        private boolean readWord(int op, boolean fits) {
            if (!fits) {
                faults.note(FAULT_MEANINGLESS, tokens.place);
            }
            return program.put(op, 0) && tokens.advance();
        }

        private boolean readClosing() {
            putWaiting(BINDS_ONE);
            for (int k = 0; k < NESTED && tokens.kind == ')' && opened > 0; k++) {
                putWaiting(JOINS_LOOSELY);
                waiting--;
                opened--;
                nested--;
                tokens.advance();
                putWaiting(BINDS_ONE);
            }
            return true;
        }

        private int joiningOp() {
            switch (tokens.kind) {
                case '+': return Op.ADD;
                case '-': return Op.SUBTRACT;
                case '*': return Op.MULTIPLY;
                case '/': return Op.DIVIDE;
                default: return MISSING;
            }
        }

        /** The signs inside of parentheses are signs of the whole exp, too. */
        private boolean readSign(int op) {
            if (signs >= SIGNS) {
                return false;
            }
            signs++;
            putWaiting(strengthOf(op));
            pushWaiting(op);
            return tokens.advance();
        }

        private boolean finishExp() {
            if (opened > 0) {
                return false;
            }
            putWaiting(JOINS_LOOSELY);
            return program.put(Op.STOP, 0);
        }

        private int strengthOf(int op) {
            switch (op) {
                case Op.ADD: case Op.SUBTRACT: return JOINS_LOOSELY;
                case Op.MULTIPLY: case Op.DIVIDE: return JOINS_CLOSELY;
                case Op.NEGATE: return BINDS_ONE;
                default: return 0;
            }
        }

        private void pushWaiting(int op) {
            if (waiting >= 0 && waiting < pile.length) {
                pile[waiting] = op;
                waiting++;
            }
        }

        /** What waits on top and is as strong at least: equal signs go from the left. */
        private void putWaiting(int strength) {
            for (int k = waiting - 1; k >= 0 && k < pile.length && strengthOf(pile[k]) >= strength; k--) {
                program.put(pile[k], 0);
                if (pile[k] == Op.NEGATE) {
                    nested--;
                }
                waiting = k;
            }
        }
    }

    /** Finds what the names in the code mean: only when the text has been read whole is all told that they may mean. */
    private static final class Binder {
        Program program;
        Faults faults;
        Enumeration open;
        int constant;
        boolean inMaker;

        void bind(Program read, Faults itsFaults) {
            program = read;
            faults = itsFaults;
            open = null;
            constant = 0;
            inMaker = false;
            for (int k = 0; k < program.codeSize; k++) {
                bindOp(k);
            }
            noteTwice(program.enumNames, program.size);
            for (int e = 0; e < program.size; e++) {
                Enumeration it = program.enumAt(e);
                if (it != null) {
                    noteTwice(it.names, it.namesSize);
                    noteNotGiven(it);
                }
            }
        }

        private void noteTwice(int[] names, int many) {
            for (int k = 0; k < many && k < names.length; k++) {
                if (program.text.firstNamed(names[k], names, k) != MISSING) {
                    faults.note(FAULT_TWICE, names[k]);
                }
            }
        }

        private void bindOp(int k) {
            int operand = program.operandAt(k);
            switch (program.opAt(k)) {
                case Op.IN_ENUM: open = program.enumAt(operand); break;
                case Op.IN_BODY: constant = operand; break;
                case Op.IN_GIVE: bindGive(k, operand); break;
                case Op.IN_MAKER: inMaker = true; break;
                case Op.STOP: inMaker = false; break;
                case Op.FIELD: bindField(k, operand); break;
                case Op.CONSTANT: bindConstant(k, operand / Tokens.PLACES, operand % Tokens.PLACES); break;
                default: break;
            }
        }

        /** A second give of what is no member needs no look: its first one has a fault at a lesser place. */
        private void bindGive(int k, int name) {
            if (open == null) {
                return;
            }
            int m = program.text.firstNamed(name, open.memberNames, open.members);
            if (m == MISSING) {
                faults.note(FAULT_NO_MEMBER, name);
            } else if (open.giveCode(constant, m) != MISSING) {
                faults.note(FAULT_TWICE, name);
            } else if (open.hasConstant(constant)) {
                open.giveCodes[constant * MEMBERS + m] = k + 1;
            }
        }

        private void bindField(int k, int name) {
            if (open == null) {
                return;
            }
            int f = program.text.firstNamed(name, open.fieldNames, open.fields);
            if (f == MISSING) {
                faults.note(FAULT_MEANINGLESS, name);
            } else if (inMaker && open.isWorked(f)) {
                faults.note(FAULT_EARLY_FIELD, name);
            } else {
                program.bindTo(k, f);
            }
        }

        private void bindConstant(int k, int enumName, int name) {
            int e = program.text.firstNamed(enumName, program.enumNames, program.size);
            Enumeration it = program.enumAt(e);
            int c = it == null ? MISSING : program.text.firstNamed(name, it.constantNames, it.constants);
            if (c == MISSING) {
                faults.note(FAULT_MEANINGLESS, enumName);
            } else {
                program.bindTo(k, e * CONSTANTS + c);
            }
        }

        private void noteNotGiven(Enumeration it) {
            for (int m = 0; m < it.members; m++) {
                for (int c = 0; c < it.constants; c++) {
                    if (it.isAbstract(m) && !isGiven(it, c, m)) {
                        faults.note(FAULT_NOT_GIVEN, it.constantNames[c]);
                    }
                }
            }
        }

        /** A give counts for its name, and is kept with the first member of that name. */
        private boolean isGiven(Enumeration it, int c, int m) {
            int first = program.text.firstNamed(it.memberNames[m], it.memberNames, it.members);
            return it.giveCode(c, first) != MISSING;
        }
    }

    /** Starts enumerations and works out exps, until something fails. */
    private static final class Runner {
        final int[] traceRows = new int[TRACE_ROWS];
        // Each exp has one operand more than signs, and at most one for each enumeration and one for the call are open.
        final int[] stack = new int[(ENUMS + 1) * (SIGNS + 1)];
        int traceSize;
        int top;
        int failure;
        Program program;

        void begin(Program loaded) {
            program = loaded;
            top = 0;
            failure = 0;
        }

        boolean failBy(int cause) {
            failure = cause;
            return false;
        }

        /** Whether it may be used now; depth is how many enumerations are in work. */
        boolean want(int e, int depth) {
            Enumeration it = program.enumAt(e);
            if (it == null || it.state == FAILED) {
                return failBy(BY_GONE);
            }
            if (it.state == NOT_STARTED && depth < ENUMS) {
                start(e, it, depth + 1);
            }
            return failure == 0;
        }

        private void start(int e, Enumeration it, int depth) {
            it.state = IN_WORK;
            addTrace(1000 * e);
            for (int c = 0; c < it.constants && failure == 0; c++) {
                make(e, it, c, depth);
            }
            for (int f = 0; f < it.fields && failure == 0; f++) {
                set(it, f, depth);
            }
            it.state = failure == 0 ? DONE : FAILED;
            addTrace(1000 * e + (failure == 0 ? 100 : 200));
        }

        private void make(int e, Enumeration it, int c, int depth) {
            int val = it.makerCode == MISSING ? 0 : work(it.makerCode, it, c, depth);
            if (failure == 0 && it.hasConstant(c)) {
                it.vals[c] = val;
                it.made = c + 1;
                addTrace(1000 * e + 1 + c);
            }
        }

        private void set(Enumeration it, int f, int depth) {
            if (!it.isWorked(f)) {
                return;
            }
            int number = work(it.fieldCodes[f], it, MISSING, depth);
            if (failure == 0) {
                it.fieldNumbers[f] = number;
            }
        }

        /** What the exp at a place of the code is worth for a constant (MISSING: for none). */
        int work(int code, Enumeration it, int c, int depth) {
            int bottom = top;
            for (int k = code; k < program.codeSize && failure == 0; k++) {
                if (program.opAt(k) == Op.STOP) {
                    break;
                }
                step(k, it, c, depth);
            }
            int worth = top > bottom ? pop() : 0;
            top = bottom;
            return worth;
        }

        private void step(int k, Enumeration it, int c, int depth) {
            int op = program.opAt(k);
            int operand = program.operandAt(k);
            switch (op) {
                case Op.NUMBER: push(operand); break;
                case Op.FIELD: push(it.hasField(operand) ? it.fieldNumbers[operand] : 0); break;
                case Op.CONSTANT: push(valOf(operand / CONSTANTS, operand % CONSTANTS, depth)); break;
                case Op.ARG: push(it.hasConstant(c) ? it.args[c] : 0); break;
                case Op.VAL: push(it.hasConstant(c) ? it.vals[c] : 0); break;
                case Op.PLACE: push(c); break;
                case Op.NEGATE: push(-pop()); break;
                default: join(op); break;
            }
        }

        private void join(int op) {
            int right = pop();
            int left = pop();
            switch (op) {
                case Op.ADD: push(left + right); break;
                case Op.SUBTRACT: push(left - right); break;
                case Op.MULTIPLY: push(left * right); break;
                case Op.DIVIDE: push(divide(left, right)); break;
                default: break;
            }
        }

        private int divide(int left, int right) {
            if (right == 0) {
                failure = BY_ARITHMETIC;
                return 0;
            }
            return left / right;
        }

        private int valOf(int e, int c, int depth) {
            Enumeration it = program.enumAt(e);
            if (it == null || !want(e, depth)) {
                return 0;
            }
            if (!it.hasConstant(c) || c >= it.made) {
                failBy(BY_NULL);
                return 0;
            }
            return it.vals[c];
        }

        private void push(int number) {
            if (top >= 0 && top < stack.length) {
                stack[top] = number;
                top++;
            }
        }

        private int pop() {
            if (top <= 0 || top > stack.length) {
                return 0;
            }
            top--;
            return stack[top];
        }

        private void addTrace(int row) {
            if (traceSize < traceRows.length) {
                traceRows[traceSize] = row;
                traceSize++;
            }
        }
    }
}
