import java.util.Arrays;

/**
 * A reader of programs of filters after jq. A tape takes the bytes of a program; reading it tells
 * how many of each kind the program has, or the place where it is broken.
 */
public final class FilterReader {
    private static final int MOST_BYTES = 16384;
    private static final int FED_BYTES = 20;

    private final byte[] tape;
    private final Grammar grammar;
    private int length;

    public FilterReader() {
        tape = new byte[MOST_BYTES];
        grammar = new Grammar();
        length = 0;
    }

    public int feed(int a, int b, int c, int d, int e) throws IndexOutOfBoundsException {
        if (length > MOST_BYTES - FED_BYTES) {
            throw new IndexOutOfBoundsException();
        }
        append(a);
        append(b);
        append(c);
        append(d);
        append(e);
        return length;
    }

    public int end(int n) throws IllegalArgumentException {
        if (n < 0 || n > length) {
            throw new IllegalArgumentException();
        }
        length = n;
        return length;
    }

    public int read() throws UnsupportedOperationException {
        int bytes = length;
        length = 0;
        return grammar.readProgram(tape, bytes);
    }

    public int many(int kind) throws IllegalArgumentException {
        if (!Kind.isKind(kind)) {
            throw new IllegalArgumentException();
        }
        return grammar.countOf(kind);
    }

    public int place() {
        return grammar.brokenPlace();
    }

    public int taped() {
        return length;
    }

    private void append(int fourBytes) {
        for (int shift = 24; shift >= 0 && length < MOST_BYTES; shift -= 8) {
            tape[length] = (byte) (fourBytes >> shift);
            length++;
        }
    }

    /** The document's numbers of what a program has. */
    private static final class Kind {
        static final int DOT = 0;
        static final int DOTS = 1;
        static final int INDEX = 2;
        static final int SLICE = 3;
        static final int EACH = 4;
        static final int TRY = 5;
        static final int NUMBER = 6;
        static final int PLAIN_STRING = 7;
        static final int STRING_WITH_PROGRAMS = 8;
        static final int ARRAY = 9;
        static final int OBJECT = 10;
        static final int VARIABLE = 11;
        static final int DEFINED_CALL = 12;
        static final int PARAMETER_CALL = 13;
        static final int KNOWN_CALL = 14;
        static final int BREAK = 15;
        static final int PIPE = 16;
        static final int COMMA = 17;
        static final int ALTERNATIVE = 18;
        static final int ASSIGNMENT = 19;
        static final int LOGIC = 20;
        static final int ARITHMETIC = 21;
        static final int NEGATION = 22;
        static final int REDUCE = 23;
        static final int FOREACH = 24;
        static final int IF = 25;
        static final int AS = 26;
        static final int LABEL = 27;
        static final int DEF = 28;
        static final int UNUSED = 29;
        static final int PATTERN_VARIABLE = 30;
        static final int PATTERN_ARRAY = 31;
        static final int PATTERN_OBJECT = 32;
        static final int ENTRY = 33;
        static final int LIMIT = 34;

        static boolean isKind(int kind) {
            return kind >= 0 && kind < LIMIT && kind != UNUSED;
        }
    }

    /** How firmly an operator binds: a larger number binds its sides more firmly. */
    private static final class Level {
        static final int NONE = 0;
        static final int PIPE = 1;
        static final int COMMA = 2;
        static final int RIGHT_SIDED = 3;
        static final int LOGIC = 4;
        static final int COMPARISON = 5;
        static final int ARITHMETIC = 6;
    }

    /** What a program is made of. A sign without a text of its own is told by its first bytes. */
    private enum Sign {
        END(""), NO_SIGN(""), NAME(""), FIELD(""), VARIABLE(""), NUMBER(""), STRING("\""),
        DOT("."), DOTS(".."), QUESTION("?"), COLON(":"), SEMICOLON(";"),
        ROUND_OPEN("("), ROUND_CLOSE(")"), SQUARE_OPEN("["), SQUARE_CLOSE("]"),
        CURLY_OPEN("{"), CURLY_CLOSE("}"),
        AS("as"), BREAK("break"), CATCH("catch"), DEF("def"), ELIF("elif"), ELSE("else"),
        END_WORD("end"), FOREACH("foreach"), IF("if"), LABEL("label"), REDUCE("reduce"),
        THEN("then"), TRY("try"),
        PIPE("|", Level.PIPE, Kind.PIPE),
        COMMA(",", Level.COMMA, Kind.COMMA),
        ALTERNATIVE("//", Level.RIGHT_SIDED, Kind.ALTERNATIVE),
        ASSIGN("=", Level.RIGHT_SIDED, Kind.ASSIGNMENT),
        ASSIGN_PIPE("|=", Level.RIGHT_SIDED, Kind.ASSIGNMENT),
        ASSIGN_PLUS("+=", Level.RIGHT_SIDED, Kind.ASSIGNMENT),
        ASSIGN_MINUS("-=", Level.RIGHT_SIDED, Kind.ASSIGNMENT),
        ASSIGN_TIMES("*=", Level.RIGHT_SIDED, Kind.ASSIGNMENT),
        ASSIGN_OVER("/=", Level.RIGHT_SIDED, Kind.ASSIGNMENT),
        ASSIGN_MODULO("%=", Level.RIGHT_SIDED, Kind.ASSIGNMENT),
        ASSIGN_ALTERNATIVE("//=", Level.RIGHT_SIDED, Kind.ASSIGNMENT),
        OR("or", Level.LOGIC, Kind.LOGIC),
        AND("and", Level.LOGIC, Kind.LOGIC),
        EQUAL("==", Level.COMPARISON, Kind.ARITHMETIC),
        UNEQUAL("!=", Level.COMPARISON, Kind.ARITHMETIC),
        LESS("<", Level.COMPARISON, Kind.ARITHMETIC),
        AT_MOST("<=", Level.COMPARISON, Kind.ARITHMETIC),
        MORE(">", Level.COMPARISON, Kind.ARITHMETIC),
        AT_LEAST(">=", Level.COMPARISON, Kind.ARITHMETIC),
        PLUS("+", Level.ARITHMETIC, Kind.ARITHMETIC),
        MINUS("-", Level.ARITHMETIC, Kind.ARITHMETIC),
        TIMES("*", Level.ARITHMETIC, Kind.ARITHMETIC),
        OVER("/", Level.ARITHMETIC, Kind.ARITHMETIC),
        MODULO("%", Level.ARITHMETIC, Kind.ARITHMETIC);

        private static final Sign[] ALL = values();

        private final String text;
        private final boolean word;
        private final int level;
        private final int kind;

        Sign(String text) {
            this(text, Level.NONE, Kind.UNUSED);
        }

        Sign(String text, int level, int kind) {
            this.text = text;
            this.level = level;
            this.kind = kind;
            word = !text.isEmpty() && Bytes.startsName(text.charAt(0));
        }

        /** The word that the name from .. to is, or NAME. */
        static Sign ofName(byte[] tape, int from, int to) {
            for (int i = 0; i < ALL.length; i++) {
                Sign sign = ALL[i];
                if (sign.word && sign.text.length() == to - from
                        && Bytes.isText(tape, from, to, sign.text, 0)) {
                    return sign;
                }
            }
            return NAME;
        }

        /** The longest sign without letters that begins at from, or NO_SIGN. */
        static Sign ofSymbol(byte[] tape, int from, int limit) {
            Sign longest = NO_SIGN;
            for (int i = 0; i < ALL.length; i++) {
                Sign sign = ALL[i];
                int size = sign.text.length();
                if (!sign.word && size > longest.text.length() && size <= limit - from
                        && Bytes.isText(tape, from, from + size, sign.text, 0)) {
                    longest = sign;
                }
            }
            return longest;
        }
    }

    /** What single bytes and runs of bytes are. */
    private static final class Bytes {
        static boolean isBlank(int b) {
            return b == ' ' || b == '\t' || b == '\n' || b == '\r';
        }

        static boolean isDigit(int b) {
            return b >= '0' && b <= '9';
        }

        static boolean startsName(int b) {
            return b >= 'a' && b <= 'z' || b >= 'A' && b <= 'Z' || b == '_';
        }

        static boolean isOfName(int b) {
            return b >= 'a' && b <= 'z' || b >= 'A' && b <= 'Z' || b == '_' || b >= '0' && b <= '9';
        }

        static boolean isEscaped(int b) {
            return b == '"' || b == '\\' || b == '/' || b == 'b' || b == 'f' || b == 'n'
                    || b == 'r' || b == 't';
        }

        /** The value of a digit of base 16, or -1. */
        static int hexDigit(int b) {
            if (isDigit(b)) {
                return b - '0';
            }
            if (b >= 'a' && b <= 'f') {
                return b - 'a' + 10;
            }
            return b >= 'A' && b <= 'F' ? b - 'A' + 10 : -1;
        }

        /** Whether the bytes from .. to are the characters of the text from at on. */
        static boolean isText(byte[] tape, int from, int to, String text, int at) {
            if (from < 0 || to > tape.length || at < 0 || to - from > text.length() - at) {
                return false;
            }
            for (int i = 0; i < to - from; i++) {
                if (tape[from + i] != text.charAt(at + i)) {
                    return false;
                }
            }
            return true;
        }

        static boolean same(byte[] tape, int from, int other, int size) {
            if (from < 0 || other < 0 || from + size > tape.length || other + size > tape.length) {
                return false;
            }
            for (int i = 0; i < size; i++) {
                if (tape[from + i] != tape[other + i]) {
                    return false;
                }
            }
            return true;
        }
    }

    /** Goes over the signs of a program: one sign is looked at, the next is read when asked for. */
    private static final class Signs {
        private static final long FIRST_TOO_LARGE = 1L << 53;
        private static final int FIRST_WIDE_CHARACTER = 128;

        private byte[] tape;
        private int length;
        private int start;
        private int behind;
        private Sign sign;

        Signs() {
            tape = new byte[0];
            sign = Sign.END;
        }

        void begin(byte[] program, int bytes) {
            tape = program;
            length = bytes;
            goTo(0);
        }

        Sign sign() {
            return sign;
        }

        boolean is(Sign other) {
            return sign == other;
        }

        boolean isNameOrWord() {
            return sign == Sign.NAME || sign.word;
        }

        int start() {
            return start;
        }

        int behind() {
            return behind;
        }

        /** Where the NAME begins, in a $NAME and in a FIELD behind their first byte. */
        int nameStart() {
            return sign == Sign.VARIABLE || sign == Sign.FIELD ? start + 1 : start;
        }

        /** Reads the sign that comes from there on. */
        void goTo(int from) {
            behind = from;
            next();
        }

        void next() {
            start = skipBlanks(behind);
            int first = byteAt(start);
            if (first < 0) {
                behind = start;
                sign = Sign.END;
            } else if (Bytes.isDigit(first)) {
                number();
            } else if (Bytes.startsName(first)) {
                behind = nameEnd(start);
                sign = Sign.ofName(tape, start, behind);
            } else if ((first == '.' || first == '$') && Bytes.startsName(byteAt(start + 1))) {
                behind = nameEnd(start + 1);
                sign = first == '.' ? Sign.FIELD : Sign.VARIABLE;
            } else {
                sign = Sign.ofSymbol(tape, start, length);
                behind = start + sign.text.length();
            }
        }

        /** Where the piece of a STRING from there ends: at its " or at \(; -1 if neither comes. */
        int pieceEnd(int from) {
            int at = from;
            for (int n = 0; n < length && at < length; n++) {
                if (byteAt(at) == '"' || opensProgram(at)) {
                    return at;
                }
                int size = characterSize(at);
                if (size == 0) {
                    return -1;
                }
                at += size;
            }
            return -1;
        }

        boolean opensProgram(int at) {
            return byteAt(at) == '\\' && byteAt(at + 1) == '(';
        }

        private int byteAt(int at) {
            return at >= 0 && at < length && at < tape.length ? tape[at] & 255 : -1;
        }

        private int skipBlanks(int from) {
            int at = from;
            boolean remark = false;
            for (; at < length; at++) {
                int b = byteAt(at);
                remark = b != '\n' && (remark || b == '#');
                if (!remark && !Bytes.isBlank(b)) {
                    break;
                }
            }
            return at;
        }

        private int nameEnd(int from) {
            int at = from;
            while (at < length && Bytes.isOfName(byteAt(at))) {
                at++;
            }
            return at;
        }

        private void number() {
            long value = 0;
            behind = start;
            for (; behind < length && Bytes.isDigit(byteAt(behind)); behind++) {
                value = Math.min(value * 10 + byteAt(behind) - '0', FIRST_TOO_LARGE);
            }
            sign = value < FIRST_TOO_LARGE ? Sign.NUMBER : Sign.NO_SIGN;
        }

        /** The bytes of one character of a STRING, 0 if there is none. */
        private int characterSize(int at) {
            int b = byteAt(at);
            if (b != '\\') {
                return b >= 32 && b <= 126 ? 1 : 0;
            }
            int escaped = byteAt(at + 1);
            if (escaped == 'u') {
                return isNarrowCode(at + 2) ? 6 : 0;
            }
            return Bytes.isEscaped(escaped) ? 2 : 0;
        }

        private boolean isNarrowCode(int from) {
            int code = 0;
            for (int i = 0; i < 4; i++) {
                int digit = Bytes.hexDigit(byteAt(from + i));
                if (digit < 0) {
                    return false;
                }
                code = code * 16 + digit;
            }
            return code < FIRST_WIDE_CHARACTER;
        }
    }

    /** The names that are known where the reader stands; a later one hides an earlier one. */
    private static final class Names {
        static final int HIDDEN = -1;
        static final int VARIABLE = -2;
        static final int LABEL = -3;
        static final int NOT_KNOWN = -4;

        // Each P that is open knows one def with ten parameters of two names each, at most.
        private static final int MOST = 1400;
        private static final String WITHOUT_PARAMETERS =
                "null false true empty error not length keys type tostring tonumber sort reverse explode implode floor abs ";
        private static final String WITH_ONE_PARAMETER =
                "error has contains split join getpath sort_by group_by path ";
        private static final String WITH_TWO_PARAMETERS = "range setpath ";

        private final int[] sorts;
        private final int[] starts;
        private final int[] sizes;
        private final int[] parameters;
        private byte[] tape;
        private int size;

        Names() {
            sorts = new int[MOST];
            starts = new int[MOST];
            sizes = new int[MOST];
            parameters = new int[MOST];
            tape = new byte[0];
        }

        void begin(byte[] program) {
            tape = program;
            size = 0;
        }

        int size() {
            return size;
        }

        /** The sort is VARIABLE, LABEL or, of a function, the kind of its calls. */
        void add(int sort, int from, int to) {
            if (size < MOST) {
                sorts[size] = sort;
                starts[size] = from;
                sizes[size] = to - from;
                parameters[size] = 0;
                size++;
            }
        }

        void setParameters(int index, int count) {
            if (index >= 0 && index < size) {
                parameters[index] = count;
            }
        }

        void forgetFrom(int mark) {
            size = Math.min(size, mark);
        }

        void setSorts(int from, int to, int sort) {
            for (int i = Math.max(from, 0); i < to && i < size; i++) {
                sorts[i] = sort;
            }
        }

        boolean has(int sort, int from, int to) {
            for (int i = size - 1; i >= 0; i--) {
                if (sorts[i] == sort && isNamed(i, from, to)) {
                    return true;
                }
            }
            return false;
        }

        /** The kind of a call of the function, NOT_KNOWN if there is none. */
        int callKind(int from, int to, int count) {
            for (int i = size - 1; i >= 0; i--) {
                if (sorts[i] >= 0 && parameters[i] == count && isNamed(i, from, to)) {
                    return sorts[i];
                }
            }
            return isKnownAnywhere(from, to, count) ? Kind.KNOWN_CALL : NOT_KNOWN;
        }

        private boolean isNamed(int index, int from, int to) {
            return sizes[index] == to - from
                    && Bytes.same(tape, starts[index], from, sizes[index]);
        }

        private boolean isKnownAnywhere(int from, int to, int count) {
            switch (count) {
                case 0: return isListed(WITHOUT_PARAMETERS, from, to);
                case 1: return isListed(WITH_ONE_PARAMETER, from, to);
                case 2: return isListed(WITH_TWO_PARAMETERS, from, to);
                default: return false;
            }
        }

        /** Whether the list, with a blank behind each of its names, has this one. */
        private boolean isListed(String list, int from, int to) {
            int listed = 0;
            for (int i = 0; i < list.length(); i++) {
                if (list.charAt(i) == ' ') {
                    if (i - listed == to - from && Bytes.isText(tape, from, to, list, listed)) {
                        return true;
                    }
                    listed = i + 1;
                }
            }
            return false;
        }
    }

    /**
     * Reads a program by the document's rules. The argument open is how many P, elif, right sides,
     * { and [ are open; it keeps the recursion low, as each of them takes at most four calls.
     */
    private static final class Grammar {
        private static final int MOST_OPEN = 60;
        private static final int MOST_NAMES = 10;
        private static final int MOST_SIGNS = MOST_BYTES + 1;
        private static final int NOT_BROKEN = -1;

        private final int[] counts;
        private final Signs signs;
        private final Names names;
        private int total;
        private int brokenPlace;

        Grammar() {
            counts = new int[Kind.LIMIT];
            signs = new Signs();
            names = new Names();
            brokenPlace = NOT_BROKEN;
        }

        int countOf(int kind) {
            return kind >= 0 && kind < counts.length ? counts[kind] : 0;
        }

        int brokenPlace() {
            return brokenPlace;
        }

        int readProgram(byte[] tape, int length) {
            forgetProgram();
            brokenPlace = NOT_BROKEN;
            names.begin(tape);
            signs.begin(tape, length);
            program(0);
            need(Sign.END);
            return total;
        }

        private void forgetProgram() {
            Arrays.fill(counts, 0);
            total = 0;
        }

        private void count(int kind) {
            if (kind >= 0 && kind < counts.length) {
                counts[kind]++;
                total++;
            }
        }

        private void broken(int place) {
            forgetProgram();
            brokenPlace = place;
            throw new UnsupportedOperationException();
        }

        private void need(Sign sign) {
            if (!signs.is(sign)) {
                broken(signs.start());
            }
        }

        private void take(Sign sign) {
            need(sign);
            signs.next();
        }

        private void takeAs(int kind) {
            count(kind);
            signs.next();
        }

        /** Takes the sign if it stands here. */
        private boolean takes(Sign sign) {
            boolean here = signs.is(sign);
            if (here) {
                signs.next();
            }
            return here;
        }

        /** Refuses the sign here if it would open one more than may be open. */
        private int opened(int open) {
            if (open > MOST_OPEN) {
                broken(signs.start());
            }
            return open;
        }

        private void learn(int sort) {
            names.add(sort, signs.nameStart(), signs.behind());
        }

        private void needKnown(int sort) {
            if (!names.has(sort, signs.nameStart(), signs.behind())) {
                broken(signs.start());
            }
        }

        /**
         * Reads a P with each P behind its |. A second comparison is left to the outer P: behind
         * TERM as PATTERN | P it may stand there.
         */
        private void program(int outer) {
            int mark = names.size();
            int open = heads(outer + 1);
            int deep = open;
            boolean compared = false;
            for (int n = 0; n < MOST_SIGNS; n++) {
                operand(deep);
                Sign operator = signs.sign();
                int level = operator.level;
                if (level == Level.NONE || level == Level.COMPARISON && compared) {
                    break;
                }
                takeAs(operator.kind);
                if (level == Level.PIPE) {
                    open = heads(open + 1);
                }
                if (level == Level.RIGHT_SIDED) {
                    deep = opened(deep + 1);
                } else if (level < Level.RIGHT_SIDED) {
                    deep = open;
                }
                compared = level == Level.COMPARISON || level > Level.COMPARISON && compared;
            }
            names.forgetFrom(mark);
        }

        /** Reads each def and label that begins a P; answers how many are open behind them. */
        private int heads(int first) {
            for (int open = first; open <= MOST_OPEN; open++) {
                if (signs.is(Sign.DEF)) {
                    define(open);
                } else if (signs.is(Sign.LABEL)) {
                    label();
                } else {
                    return open;
                }
            }
            broken(signs.start());
            return MOST_OPEN;
        }

        private void define(int open) {
            int self = names.size();
            takeAs(Kind.DEF);
            need(Sign.NAME);
            learn(Kind.DEFINED_CALL);
            signs.next();
            if (takes(Sign.ROUND_OPEN)) {
                int parameters = 0;
                do {
                    learnParameter(parameters);
                    signs.next();
                    parameters++;
                } while (parameters <= MOST_NAMES && takes(Sign.SEMICOLON));
                names.setParameters(self, parameters);
                take(Sign.ROUND_CLOSE);
            }
            take(Sign.COLON);
            program(open);
            take(Sign.SEMICOLON);
            names.forgetFrom(self + 1);
        }

        private void learnParameter(int before) {
            if (before >= MOST_NAMES) {
                broken(signs.start());
            }
            if (signs.is(Sign.VARIABLE)) {
                learn(Names.VARIABLE);
            } else {
                need(Sign.NAME);
            }
            learn(Kind.PARAMETER_CALL);
        }

        private void label() {
            takeAs(Kind.LABEL);
            need(Sign.VARIABLE);
            learn(Names.LABEL);
            signs.next();
            take(Sign.PIPE);
        }

        private void operand(int open) {
            switch (signs.sign()) {
                case MINUS:
                    takeAs(Kind.NEGATION);
                    term(open);
                    break;
                case REDUCE:
                    takeAs(Kind.REDUCE);
                    term(open);
                    fold(open, false);
                    break;
                case FOREACH:
                    takeAs(Kind.FOREACH);
                    term(open);
                    fold(open, true);
                    break;
                case IF:
                    condition(open);
                    break;
                case TRY:
                    takeAs(Kind.TRY);
                    term(open);
                    if (takes(Sign.CATCH)) {
                        term(open);
                    }
                    break;
                default:
                    term(open);
                    if (signs.is(Sign.AS)) {
                        bind(open);
                    }
            }
        }

        private void bind(int open) {
            int mark = names.size();
            takeAs(Kind.AS);
            pattern(open, 0);
            take(Sign.PIPE);
            program(open);
            names.forgetFrom(mark);
        }

        /** Reads what is behind the TERM of reduce or, with a third P that may stand, foreach. */
        private void fold(int open, boolean third) {
            int mark = names.size();
            take(Sign.AS);
            pattern(open, 0);
            int behind = names.size();
            take(Sign.ROUND_OPEN);
            names.setSorts(mark, behind, Names.HIDDEN);
            program(open);
            names.setSorts(mark, behind, Names.VARIABLE);
            take(Sign.SEMICOLON);
            program(open);
            if (third && takes(Sign.SEMICOLON)) {
                program(open);
            }
            take(Sign.ROUND_CLOSE);
            names.forgetFrom(mark);
        }

        private void condition(int open) {
            branch(open);
            int deep = open;
            for (int n = 0; n < MOST_OPEN && signs.is(Sign.ELIF); n++) {
                deep = opened(deep + 1);
                branch(deep);
            }
            if (takes(Sign.ELSE)) {
                program(deep);
            }
            take(Sign.END_WORD);
        }

        private void branch(int open) {
            takeAs(Kind.IF);
            program(open);
            take(Sign.THEN);
            program(open);
        }

        /** Reads a TERM; what stands behind it is read here, too, to keep the calls few. */
        private void term(int open) {
            switch (signs.sign()) {
                case DOT:
                    takeAs(Kind.DOT);
                    if (signs.is(Sign.STRING)) {
                        count(Kind.INDEX);
                        string(open);
                    }
                    break;
                case FIELD:
                    count(Kind.DOT);
                    field();
                    break;
                case DOTS: takeAs(Kind.DOTS); break;
                case NUMBER: takeAs(Kind.NUMBER); break;
                case STRING: string(open); break;
                case ROUND_OPEN: group(open); break;
                case SQUARE_OPEN: array(open); break;
                case CURLY_OPEN: object(open); break;
                case NAME: call(open); break;
                case BREAK: leave(); break;
                case VARIABLE:
                    needKnown(Names.VARIABLE);
                    takeAs(Kind.VARIABLE);
                    break;
                default: broken(signs.start());
            }
            for (int n = 0; n < MOST_SIGNS; n++) {
                boolean dotted = takes(Sign.DOT);
                if (dotted && signs.is(Sign.STRING)) {
                    count(Kind.INDEX);
                    string(open);
                } else if (dotted || signs.is(Sign.SQUARE_OPEN)) {
                    brackets(open);
                } else if (signs.is(Sign.FIELD)) {
                    field();
                } else if (signs.is(Sign.QUESTION)) {
                    takeAs(Kind.TRY);
                } else {
                    break;
                }
            }
        }

        private void field() {
            count(Kind.INDEX);
            takeAs(Kind.PLAIN_STRING);
        }

        private void brackets(int open) {
            take(Sign.SQUARE_OPEN);
            if (signs.is(Sign.SQUARE_CLOSE)) {
                takeAs(Kind.EACH);
                return;
            }
            boolean hasLeft = !signs.is(Sign.COLON);
            if (hasLeft) {
                program(open);
            }
            if (takes(Sign.COLON)) {
                count(Kind.SLICE);
                if (!hasLeft || !signs.is(Sign.SQUARE_CLOSE)) {
                    program(open);
                }
            } else {
                count(Kind.INDEX);
            }
            take(Sign.SQUARE_CLOSE);
        }

        private void string(int open) {
            int start = signs.start();
            int from = start + 1;
            for (int n = 0; n < MOST_SIGNS; n++) {
                int stop = signs.pieceEnd(from);
                if (stop < 0) {
                    broken(start);
                }
                count(Kind.PLAIN_STRING);
                if (!signs.opensProgram(stop)) {
                    signs.goTo(stop + 1);
                    return;
                }
                if (n == 0) {
                    count(Kind.STRING_WITH_PROGRAMS);
                }
                signs.goTo(stop + 2);
                program(open);
                need(Sign.ROUND_CLOSE);
                from = signs.behind();
            }
        }

        private void stringWithoutPrograms() {
            int stop = signs.pieceEnd(signs.start() + 1);
            if (stop < 0 || signs.opensProgram(stop)) {
                broken(signs.start());
            }
            count(Kind.PLAIN_STRING);
            signs.goTo(stop + 1);
        }

        private void group(int open) {
            take(Sign.ROUND_OPEN);
            program(open);
            take(Sign.ROUND_CLOSE);
        }

        private void array(int open) {
            takeAs(Kind.ARRAY);
            if (!signs.is(Sign.SQUARE_CLOSE)) {
                program(open);
            }
            take(Sign.SQUARE_CLOSE);
        }

        private void call(int open) {
            int start = signs.start();
            int behind = signs.behind();
            int given = 0;
            signs.next();
            if (takes(Sign.ROUND_OPEN)) {
                do {
                    program(open);
                    given++;
                } while (given < MOST_SIGNS && takes(Sign.SEMICOLON));
                take(Sign.ROUND_CLOSE);
            }
            int kind = names.callKind(start, behind, given);
            if (kind == Names.NOT_KNOWN) {
                broken(start);
            }
            count(kind);
        }

        private void leave() {
            takeAs(Kind.BREAK);
            need(Sign.VARIABLE);
            needKnown(Names.LABEL);
            signs.next();
        }

        private void object(int open) {
            int inner = opened(open + 1);
            takeAs(Kind.OBJECT);
            if (takes(Sign.CURLY_CLOSE)) {
                return;
            }
            int entries = 0;
            do {
                entry(inner);
                entries++;
            } while (entries < MOST_SIGNS && takes(Sign.COMMA));
            take(Sign.CURLY_CLOSE);
        }

        private void entry(int open) {
            count(Kind.ENTRY);
            boolean computed = signs.is(Sign.ROUND_OPEN);
            boolean variable = signs.is(Sign.VARIABLE);
            if (computed) {
                group(open);
            } else if (signs.is(Sign.STRING)) {
                string(open);
            } else if (variable) {
                needKnown(Names.VARIABLE);
                takeAs(Kind.PLAIN_STRING);
            } else {
                entryName();
            }
            if (computed) {
                need(Sign.COLON);
            }
            if (takes(Sign.COLON)) {
                value(open);
            } else if (variable) {
                count(Kind.VARIABLE);
            }
        }

        private void entryName() {
            if (!signs.isNameOrWord()) {
                broken(signs.start());
            }
            takeAs(Kind.PLAIN_STRING);
        }

        private void value(int open) {
            term(open);
            for (int n = 0; n < MOST_SIGNS && signs.is(Sign.PIPE); n++) {
                takeAs(Kind.PIPE);
                term(open);
            }
        }

        /** Reads a PATTERN, or a part of one that had so many $NAMES; answers how many it has. */
        private int pattern(int open, int named) {
            if (signs.is(Sign.VARIABLE)) {
                count(Kind.PATTERN_VARIABLE);
                return patternName(named);
            }
            boolean isArray = signs.is(Sign.SQUARE_OPEN);
            if (!isArray) {
                need(Sign.CURLY_OPEN);
            }
            int inner = opened(open + 1);
            takeAs(isArray ? Kind.PATTERN_ARRAY : Kind.PATTERN_OBJECT);
            int all = named;
            int parts = 0;
            do {
                all = isArray ? pattern(inner, all) : patternEntry(inner, all);
                parts++;
            } while (parts < MOST_SIGNS && takes(Sign.COMMA));
            take(isArray ? Sign.SQUARE_CLOSE : Sign.CURLY_CLOSE);
            return all;
        }

        private int patternName(int named) {
            if (named >= MOST_NAMES) {
                broken(signs.start());
            }
            learn(Names.VARIABLE);
            signs.next();
            return named + 1;
        }

        private int patternEntry(int open, int named) {
            count(Kind.ENTRY);
            int all = named;
            if (signs.is(Sign.VARIABLE)) {
                count(Kind.PLAIN_STRING);
                all = patternName(named);
                if (!signs.is(Sign.COLON)) {
                    return all;
                }
            } else if (signs.is(Sign.ROUND_OPEN)) {
                group(open);
            } else if (signs.is(Sign.STRING)) {
                stringWithoutPrograms();
            } else {
                entryName();
            }
            take(Sign.COLON);
            return pattern(open, all);
        }
    }
}
