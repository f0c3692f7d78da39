import java.math.BigInteger;
import java.util.ArrayList;
import java.util.List;
import java.util.regex.Matcher;
import java.util.regex.Pattern;

/**
 * A second reader, written down from the document level by level (P, C, A, U, O, N, R, S, M, T) and
 * with none of FilterReader's ways: signs are told by patterns, and what is known is a chain that
 * each part of the program gets as an argument. AgreementTest holds the two side by side.
 */
final class PlainReader {
    private static final Pattern BLANKS = Pattern.compile("(?:[ \\t\\n\\r]++|#[^\\n]*+)*+");
    private static final Pattern SIGN = Pattern.compile("[.$]?[A-Za-z_][A-Za-z0-9_]*+|[0-9]++|//=|"
            + "[|+*/%=!<>-]=|//|\\.\\.|[.?:;()\\[\\]{}|,=<>+*/%\"-]");
    private static final Pattern PIECE = Pattern.compile(
            "(?:[ !#-\\[\\]-~]|\\\\[\"\\\\/bfnrt]|\\\\u00[0-7][0-9a-fA-F])*+");
    private static final String WORDS = " and as break catch def elif else end foreach if label or"
            + " reduce then try ";
    private static final String ASSIGNMENTS = " = |= += -= *= /= %= //= ";
    private static final String COMPARISONS = " == != < <= > >= ";
    private static final String NO_SIGN = "\0";
    private static final int MOST_OPEN = 60;
    private static final int MOST_NAMES = 10;

    /** A chain of what is known: a later name is nearer. */
    private static final class Known {
        final String name;
        final int kind;
        final Known before;

        /** Functions are known as f/2, and with the KIND of their calls. */
        Known(String name, int kind, Known before) {
            this.name = name;
            this.kind = kind;
            this.before = before;
        }

        static int kindOf(String name, Known nearest) {
            for (Known known = nearest; known != null; known = known.before) {
                if (known.name.equals(name)) {
                    return known.kind;
                }
            }
            return -1;
        }
    }

    private static final class Broken extends RuntimeException {
        private static final long serialVersionUID = 1L;
        final int place;

        Broken(int place) {
            this.place = place;
        }
    }

    final int[] kinds = new int[Check.KINDS];
    private final String text;
    private int start;
    private int behind;
    private String sign = "";

    PlainReader(String text) {
        this.text = text;
    }

    /** The PLACE, or -1 if the program is whole. */
    int read() {
        Known anywhere = null;
        for (String name : ("null false true empty error not length keys type tostring tonumber sort"
                + " reverse explode implode floor abs").split(" ")) {
            anywhere = new Known(name + "/0", 14, anywhere);
        }
        for (String name : "error has contains split join getpath sort_by group_by path".split(" ")) {
            anywhere = new Known(name + "/1", 14, anywhere);
        }
        anywhere = new Known("range/2", 14, new Known("setpath/2", 14, anywhere));
        try {
            look(0);
            p(anywhere, 1);
            need("");
            return -1;
        } catch (Broken broken) {
            return broken.place;
        }
    }

    /** Looks at the sign from there on, "" at the end. */
    private void look(int from) {
        Matcher blanks = BLANKS.matcher(text).region(from, text.length());
        start = blanks.lookingAt() ? blanks.end() : from;
        behind = start;
        sign = start < text.length() ? NO_SIGN : "";
        Matcher found = SIGN.matcher(text).region(start, text.length());
        if (found.lookingAt()) {
            sign = found.group();
            behind = found.end();
        }
        if (isNumber() && new BigInteger(sign).bitLength() > 53) {
            sign = NO_SIGN;
        }
    }

    private boolean isNumber() {
        return !sign.isEmpty() && Character.isDigit(sign.charAt(0));
    }

    private boolean isNameOrWord() {
        return !sign.isEmpty() && (Character.isLetter(sign.charAt(0)) || sign.charAt(0) == '_');
    }

    private boolean isName() {
        return isNameOrWord() && !WORDS.contains(" " + sign + " ");
    }

    private boolean isVariable() {
        return sign.startsWith("$");
    }

    private boolean isField() {
        return sign.length() > 1 && sign.startsWith(".") && !sign.equals("..");
    }

    private boolean is(String other) {
        return sign.equals(other);
    }

    private boolean isOneOf(String signs) {
        return !sign.isEmpty() && signs.contains(" " + sign + " ");
    }

    private void next() {
        look(behind);
    }

    private void count(int kind) {
        kinds[kind]++;
    }

    private void need(boolean holds) {
        if (!holds) {
            throw new Broken(start);
        }
    }

    private void need(String due) {
        need(is(due));
    }

    private void take(String due) {
        need(due);
        next();
    }

    private boolean takes(String due) {
        boolean here = is(due);
        if (here) {
            next();
        }
        return here;
    }

    private void p(Known known, int open) {
        need(open <= MOST_OPEN);
        if (takes("def")) {
            count(28);
            p(f(known, open), open + 1);
        } else if (takes("label")) {
            count(27);
            need(isVariable());
            Known inside = new Known("label " + sign, 0, known);
            next();
            take("|");
            p(inside, open + 1);
        } else {
            c(known, open);
            if (takes("|")) {
                count(16);
                p(known, open + 1);
            }
        }
    }

    /** F : P ; and what is known behind it. */
    private Known f(Known known, int open) {
        need(isName());
        String name = sign;
        next();
        List<String> parameters = new ArrayList<>();
        if (takes("(")) {
            do {
                need(parameters.size() < MOST_NAMES && (isName() || isVariable()));
                parameters.add(sign);
                next();
            } while (takes(";"));
            take(")");
        }
        take(":");
        Known behindIt = new Known(name + "/" + parameters.size(), 12, known);
        Known inside = behindIt;
        for (String parameter : parameters) {
            if (parameter.startsWith("$")) {
                inside = new Known(parameter, 11, inside);
            }
            inside = new Known(parameter.replace("$", "") + "/0", 13, inside);
        }
        p(inside, open + 1);
        take(";");
        return behindIt;
    }

    private void c(Known known, int open) {
        a(known, open);
        while (takes(",")) {
            count(17);
            a(known, open);
        }
    }

    private void a(Known known, int open) {
        need(open <= MOST_OPEN);
        u(known, open);
        if (takes("//")) {
            count(18);
            a(known, open + 1);
        }
    }

    private void u(Known known, int open) {
        o(known, open);
        if (isOneOf(ASSIGNMENTS)) {
            count(19);
            next();
            a(known, open + 1);
        }
    }

    private void o(Known known, int open) {
        n(known, open);
        while (takes("or")) {
            count(20);
            n(known, open);
        }
    }

    private void n(Known known, int open) {
        r(known, open);
        while (takes("and")) {
            count(20);
            r(known, open);
        }
    }

    private void r(Known known, int open) {
        s(known, open);
        if (isOneOf(COMPARISONS)) {
            count(21);
            next();
            s(known, open);
        }
    }

    private void s(Known known, int open) {
        m(known, open);
        while (isOneOf(" + - ")) {
            count(21);
            next();
            m(known, open);
        }
    }

    private void m(Known known, int open) {
        t(known, open);
        while (isOneOf(" * / % ")) {
            count(21);
            next();
            t(known, open);
        }
    }

    private void t(Known known, int open) {
        if (takes("-")) {
            count(22);
            term(known, open);
        } else if (is("reduce") || is("foreach")) {
            fold(known, open);
        } else if (takes("if")) {
            condition(known, open);
        } else if (takes("try")) {
            count(5);
            term(known, open);
            if (takes("catch")) {
                term(known, open);
            }
        } else {
            term(known, open);
            if (takes("as")) {
                count(26);
                Known inside = pattern(known, open, new int[1]);
                take("|");
                p(inside, open + 1);
            }
        }
    }

    private void fold(Known known, int open) {
        boolean reduce = is("reduce");
        count(reduce ? 23 : 24);
        next();
        term(known, open);
        take("as");
        Known inside = pattern(known, open, new int[1]);
        take("(");
        p(known, open + 1);
        take(";");
        p(inside, open + 1);
        if (!reduce && takes(";")) {
            p(inside, open + 1);
        }
        take(")");
    }

    private void condition(Known known, int open) {
        count(25);
        p(known, open + 1);
        take("then");
        p(known, open + 1);
        if (is("elif")) {
            need(open + 1 <= MOST_OPEN);
            next();
            condition(known, open + 1);
            return;
        }
        if (takes("else")) {
            p(known, open + 1);
        }
        take("end");
    }

    private void term(Known known, int open) {
        if (takes(".")) {
            count(0);
            if (is("\"")) {
                count(2);
                string(known, open, true);
            }
        } else if (takes("..")) {
            count(1);
        } else if (isField()) {
            count(0);
            field();
        } else if (isNumber()) {
            count(6);
            next();
        } else if (is("\"")) {
            string(known, open, true);
        } else if (takes("(")) {
            p(known, open + 1);
            take(")");
        } else if (takes("[")) {
            count(9);
            if (!is("]")) {
                p(known, open + 1);
            }
            take("]");
        } else if (is("{")) {
            object(known, open);
        } else if (isVariable()) {
            need(Known.kindOf(sign, known) == 11);
            count(11);
            next();
        } else if (isName()) {
            call(known, open);
        } else {
            take("break");
            count(15);
            need(isVariable() && Known.kindOf("label " + sign, known) == 0);
            next();
        }
        tails(known, open);
    }

    private void tails(Known known, int open) {
        while (isField() || is(".") || is("[") || is("?")) {
            if (isField()) {
                field();
            } else if (takes("?")) {
                count(5);
            } else if (takes(".") && is("\"")) {
                count(2);
                string(known, open, true);
            } else {
                take("[");
                inBrackets(known, open);
            }
        }
    }

    private void field() {
        count(2);
        count(7);
        next();
    }

    private void inBrackets(Known known, int open) {
        if (takes("]")) {
            count(4);
            return;
        }
        boolean left = !is(":");
        if (left) {
            p(known, open + 1);
        }
        if (takes(":")) {
            count(3);
            if (!(left && is("]"))) {
                p(known, open + 1);
            }
        } else {
            count(2);
        }
        take("]");
    }

    private void call(Known known, int open) {
        int from = start;
        String name = sign;
        int given = 0;
        next();
        if (takes("(")) {
            do {
                p(known, open + 1);
                given++;
            } while (takes(";"));
            take(")");
        }
        int kind = Known.kindOf(name + "/" + given, known);
        if (kind < 0) {
            throw new Broken(from);
        }
        count(kind);
    }

    private void string(Known known, int open, boolean mayHavePrograms) {
        int from = start;
        int programs = 0;
        int at = start + 1;
        while (true) {
            Matcher piece = PIECE.matcher(text).region(at, text.length());
            at = piece.lookingAt() ? piece.end() : at;
            count(7);
            if (text.startsWith("\"", at)) {
                break;
            }
            if (!text.startsWith("\\(", at) || !mayHavePrograms) {
                throw new Broken(from);
            }
            programs++;
            look(at + 2);
            p(known, open + 1);
            need(")");
            at = behind;
        }
        kinds[8] += programs > 0 ? 1 : 0;
        look(at + 1);
    }

    private void object(Known known, int open) {
        need(open + 1 <= MOST_OPEN);
        count(10);
        next();
        if (takes("}")) {
            return;
        }
        do {
            entry(known, open + 1);
        } while (takes(","));
        take("}");
    }

    private void entry(Known known, int open) {
        count(33);
        String alone = isVariable() ? sign : "";
        boolean needsValue = is("(");
        if (takes("(")) {
            p(known, open + 1);
            take(")");
        } else if (is("\"")) {
            string(known, open, true);
        } else {
            need(isNameOrWord() || isVariable() && Known.kindOf(sign, known) == 11);
            count(7);
            next();
        }
        if (needsValue) {
            need(":");
        }
        if (takes(":")) {
            term(known, open);
            while (takes("|")) {
                count(16);
                term(known, open);
            }
        } else if (!alone.isEmpty()) {
            count(11);
        }
    }

    /** What is known behind the PATTERN; named holds how many $NAMES it had so far. */
    private Known pattern(Known known, int open, int[] named) {
        if (isVariable()) {
            count(30);
            return patternName(known, named);
        }
        boolean array = is("[");
        need(array || is("{"));
        need(open + 1 <= MOST_OPEN);
        count(array ? 31 : 32);
        next();
        Known inside = known;
        do {
            inside = array ? pattern(inside, open + 1, named) : q(inside, open + 1, named);
        } while (takes(","));
        take(array ? "]" : "}");
        return inside;
    }

    private Known patternName(Known known, int[] named) {
        need(named[0] < MOST_NAMES);
        named[0]++;
        Known inside = new Known(sign, 11, known);
        next();
        return inside;
    }

    private Known q(Known known, int open, int[] named) {
        count(33);
        if (isVariable()) {
            count(7);
            Known inside = patternName(known, named);
            return takes(":") ? pattern(inside, open, named) : inside;
        }
        if (takes("(")) {
            p(known, open + 1);
            take(")");
        } else if (is("\"")) {
            string(known, open, false);
        } else {
            need(isNameOrWord());
            count(7);
            next();
        }
        take(":");
        return pattern(known, open, named);
    }
}
