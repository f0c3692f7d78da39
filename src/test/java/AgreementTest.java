import java.util.ArrayList;
import java.util.List;
import java.util.Random;

/**
 * Promises 4, 5 and 6, on programs that no one has written: FilterReader and PlainReader read the
 * same ones, made by the grammar, whole or with a few changes, and must answer the same.
 */
public final class AgreementTest {
    private static final int MOST_BYTES = 16384;
    private static final String[] NAMES = {"f", "g", "a", "x", "not", "error", "end_", "_1"};
    private static final String[] WORDS = ("and as break catch def elif else end foreach if label or"
            + " reduce then try").split(" ");
    private static final String[] OPERATORS = (", // = |= += -= *= /= %= //= or and == != < <= > >="
            + " + - * / %").split(" ");
    private static final String[] SIGNS = (". .. .a .if 1 0 9007199254740992 \"s\" \"\\(1)\" \"\\( ) \" ("
            + " [ ] { } $x $a $ | , : ; ? // = == + - * / not f a as if then elif else end def label"
            + " break reduce foreach try catch and or ! @ ~ \\ #").split(" ");
    private static final String[] STRINGS = {"\"\"", "\"a b\"", "\"\\\\\\u0041\\n\"", "\"#(\""};
    private static final String[] BLANKS = {"", "", " ", " ", "\n", "\t", "\r", " # 1 (\n", "#\n"};
    /** Each of these opens one more and leaves a P to be written. */
    private static final String[][] OPENINGS = {
        {"(", ")"}, {"[", "]"}, {"\"a\\(", ")b\""}, {".[", "]"}, {".[1:", "]"}, {"has(", ")"},
        {"range(1;", ")"}, {"1|", ""}, {"1 as $x|", ""}, {"label $x|", ""}, {"def f:1;", ""},
        {"def f:", ";f"}, {"if ", " then 1 end"}, {"if 1 then 2 else ", " end"},
        {"reduce . as $x(", ";1)"}, {"foreach . as [$x](1;2;", ")"}, {"try (", ")"}, {"-(", ")"},
        {"1//2=3,(", ")"}, {"1//2=3|", ""}};
    /** Each of these opens two or three more and leaves a P to be written. */
    private static final String[][] DEEPER = {
        {"1//(", ")"}, {".=[", "]"}, {"{a:(", ")}"}, {"{(", "):1}"}, {". as {(", "):$x}|1"},
        {"1 or 2//(", ")"}, {"if 1 then 2 elif ", " then 3 end"},
        {"if 1 then 2 elif 3 then 4 else ", " end"}, {". as [{(", "):$x}]|1"}};

    private final Random random;
    private final List<String> signs = new ArrayList<>();
    /** What is known where the next sign comes: $x, label $x, f/0. */
    private final List<String> known = new ArrayList<>();

    private AgreementTest(long seed) {
        random = new Random(seed);
    }

    public static void main(String[] args) {
        int programs = args.length > 0 ? Integer.parseInt(args[0]) : 20000;
        int whole = 0;
        for (int seed = 1; seed <= programs; seed++) {
            whole += agree(new AgreementTest(seed).make()) ? 1 : 0;
        }
        Check.isTrue("many programs are whole", whole > programs / 5);
        Check.isTrue("many programs are broken", whole < programs * 4 / 5);
        Check.finish();
    }

    /** Whether the program is whole. */
    private static boolean agree(String program) {
        PlainReader plain = new PlainReader(program);
        int place = plain.read();
        FilterReader reader = new FilterReader();
        Check.equal(program + " throws", Check.breaks(reader, program) ? 1 : 0, place < 0 ? 0 : 1);
        Check.equal(program + " place()", reader.place(), place);
        for (int kind = 0; kind < Check.KINDS; kind++) {
            if (kind != Check.NO_KIND) {
                Check.equal(program + " many(" + kind + ")", reader.many(kind),
                        place < 0 ? plain.kinds[kind] : 0);
            }
        }
        return place < 0;
    }

    private String make() {
        p(4 + random.nextInt(30));
        for (int changes = random.nextInt(5) - 2; changes > 0; changes--) {
            change();
        }
        String program = written();
        if (random.nextInt(8) == 0) {
            program = wrapped(program);
        }
        program = program.substring(0, Math.min(program.length(), MOST_BYTES));
        return random.nextInt(16) == 0 && !program.isEmpty() ? withOtherByte(program) : program;
    }

    private String one(String... of) {
        return of[random.nextInt(of.length)];
    }

    private void add(String... more) {
        signs.addAll(List.of(more));
    }

    private void change() {
        int at = random.nextInt(signs.size());
        switch (random.nextInt(4)) {
            case 0: signs.set(at, ""); break;
            case 1: signs.add(at, one(SIGNS)); break;
            case 2: signs.set(at, one(SIGNS)); break;
            default: signs.add(at, signs.get(random.nextInt(signs.size())));
        }
    }

    private String written() {
        StringBuilder program = new StringBuilder();
        boolean spaced = random.nextBoolean();
        for (String sign : signs) {
            boolean joins = program.length() > 0 && !sign.isEmpty()
                    && join(program.charAt(program.length() - 1), sign.charAt(0));
            program.append(joins && random.nextInt(50) > 0 ? " " : spaced ? one(BLANKS) : "").append(sign);
        }
        return program.toString();
    }

    /** Whether the two would be one sign, or parts of others, without a blank between them. */
    private static boolean join(char last, char first) {
        return isOfName(last) && isOfName(first) || last == '.' && first == '.';
    }

    private static boolean isOfName(char c) {
        return Character.isLetterOrDigit(c) || c == '_';
    }

    /** Opens so many around the program that it comes near to the limit. */
    private String wrapped(String program) {
        StringBuilder heads = new StringBuilder();
        StringBuilder tails = new StringBuilder();
        int least = 20 + random.nextInt(42);
        for (int i = 0; i < least; i++) {
            String[] pair = random.nextInt(3) == 0
                    ? DEEPER[random.nextInt(DEEPER.length)] : OPENINGS[random.nextInt(OPENINGS.length)];
            heads.append(pair[0]);
            tails.insert(0, pair[1]);
        }
        return heads + program + tails;
    }

    private String withOtherByte(String program) {
        StringBuilder text = new StringBuilder(program);
        text.setCharAt(random.nextInt(text.length()), (char) random.nextInt(256));
        return text.toString();
    }

    private void p(int size) {
        int mark = known.size();
        int way = random.nextInt(12);
        if (size > 4 && way == 0) {
            def(size / 2);
            p(size / 2);
        } else if (size > 4 && way == 1) {
            String label = variable();
            add("label", label, "|");
            known.add("label " + label);
            p(size - 2);
        } else if (size > 4 && way < 5) {
            c(size / 2);
            add("|");
            p(size / 2);
        } else {
            c(size);
        }
        forget(mark);
    }

    private void forget(int mark) {
        known.subList(mark, known.size()).clear();
    }

    private String variable() {
        return "$" + (random.nextInt(9) == 0 ? one(WORDS) : one(NAMES));
    }

    private void def(int size) {
        String name = one(NAMES);
        int parameters = random.nextInt(20) == 0 ? 9 + random.nextInt(3) : random.nextInt(3);
        add("def", name);
        List<String> inside = new ArrayList<>();
        for (int i = 0; i < parameters; i++) {
            String parameter = random.nextBoolean() ? variable() : one(NAMES);
            add(i == 0 ? "(" : ";", parameter);
            inside.add(parameter.startsWith("$") ? parameter : parameter + "/0");
            inside.add(parameter.replace("$", "") + "/0");
        }
        if (parameters > 0) {
            add(")");
        }
        add(":");
        known.add(name + "/" + parameters);
        int mark = known.size();
        known.addAll(inside);
        p(size);
        forget(mark);
        add(";");
    }

    private void c(int size) {
        boolean compared = false;
        t(size > 6 ? size / 2 : size);
        for (int left = size / 2; left > 3; left /= 2) {
            String operator = one(OPERATORS);
            boolean comparison = "== != < <= > >=".contains(operator) && !operator.equals("=");
            if (!comparison || !compared || random.nextInt(20) == 0) {
                add(operator);
                t(left / 2);
                compared = comparison || compared && "+-*/%".contains(operator);
            }
        }
    }

    private void t(int size) {
        int mark = known.size();
        int way = size < 3 ? 9 : random.nextInt(10);
        if (way == 0) {
            fold(size);
        } else if (way == 1) {
            condition(size);
        } else if (way == 2) {
            add("try");
            term(size / 2);
            if (random.nextBoolean()) {
                add("catch");
                term(size / 2);
            }
        } else if (way == 3) {
            term(size / 2);
            add("as");
            pattern(size / 4);
            add("|");
            p(size / 2);
        } else {
            if (way == 4) {
                add("-");
            }
            term(size);
        }
        forget(mark);
    }

    private void fold(int size) {
        String word = one("reduce", "foreach");
        add(word);
        term(size / 3);
        add("as");
        int mark = known.size();
        pattern(size / 4);
        List<String> named = new ArrayList<>(known.subList(mark, known.size()));
        if (random.nextInt(20) > 0) {
            forget(mark);
        }
        add("(");
        p(size / 3);
        add(";");
        known.addAll(named);
        p(size / 3);
        if (word.equals("foreach") && random.nextBoolean()) {
            add(";");
            p(size / 3);
        }
        add(")");
    }

    private void condition(int size) {
        add("if");
        p(size / 3);
        add("then");
        p(size / 3);
        for (int i = random.nextInt(3); i > 0; i--) {
            add("elif");
            p(size / 4);
            add("then");
            p(size / 4);
        }
        if (random.nextBoolean()) {
            add("else");
            p(size / 3);
        }
        add("end");
    }

    private void term(int size) {
        switch (random.nextInt(size < 2 ? 7 : 13)) {
            case 0: add("."); break;
            case 1: add(one("..", ".a", ".if", "._1")); break;
            case 2: add(one("0", "1", "9007199254740991", "007")); break;
            case 3: knownName("$", random.nextInt(30) == 0 ? "$x" : "1"); break;
            case 4: add(random.nextInt(30) == 0 ? "\"\\u0080\"" : one(STRINGS)); break;
            case 5: knownName("label ", "."); break;
            case 6: call(0); break;
            case 7: add("("); p(size - 1); add(")"); break;
            case 8: add("["); inArray(size - 1); add("]"); break;
            case 9: object(size - 1); break;
            case 10: string(size - 1); break;
            case 11: add("."); string(size - 1); break;
            default: call(size - 1);
        }
        for (int i = random.nextInt(5) - 2; i > 0; i--) {
            tail(size / 2);
        }
    }

    private void inArray(int size) {
        if (random.nextInt(4) > 0) {
            p(size);
        }
    }

    /** A name of the sort that is known, or the other if there is none. */
    private void knownName(String sort, String other) {
        List<String> fit = new ArrayList<>();
        for (String name : known) {
            if (name.startsWith(sort)) {
                fit.add(name);
            }
        }
        if (fit.isEmpty()) {
            add(other);
        } else {
            String name = fit.get(random.nextInt(fit.size()));
            add(sort.equals("$") ? name : "break " + name.substring(sort.length()));
        }
    }

    private void call(int size) {
        List<String> fit = new ArrayList<>(List.of("null/0", "error/0", "not/0", "error/1", "has/1",
                "range/2", random.nextInt(20) == 0 ? "unknown/1" : "path/1"));
        for (String name : known) {
            if (name.indexOf('/') > 0) {
                fit.add(name);
                fit.add(name);
            }
        }
        // A program without a size has nothing inside: else it might have no end.
        fit.removeIf(name -> size < 1 && !name.endsWith("/0"));
        String[] name = fit.get(random.nextInt(fit.size())).split("/");
        int given = Integer.parseInt(name[1]);
        add(name[0]);
        for (int i = 0; i < given; i++) {
            add(i == 0 ? "(" : ";");
            p(size / 2);
        }
        if (given > 0) {
            add(")");
        }
    }

    private void string(int size) {
        add("\"" + one("", "a", "\\\"", ")"));
        for (int i = 1 + random.nextInt(2); i > 0; i--) {
            int from = signs.size();
            p(size / 2);
            // What is in a STRING is written as one sign with it: no blank may come before its \(.
            String inside = String.join(" ", signs.subList(from, signs.size()));
            signs.subList(from, signs.size()).clear();
            signs.set(from - 1, signs.get(from - 1) + "\\(" + inside + ")" + one("", "b", "\\n"));
        }
        signs.set(signs.size() - 1, signs.get(signs.size() - 1) + "\"");
    }

    private void tail(int size) {
        switch (random.nextInt(size < 1 ? 3 : 8)) {
            case 0: add(one(".b", ".else")); break;
            case 1: add(one("[", ".["), "]"); break;
            case 2: add("?"); break;
            case 3: add("."); string(size); break;
            case 4: add(one("[", ".[")); p(size); add("]"); break;
            case 5: add(one("[", ".[")); p(size); add(":"); p(size); add("]"); break;
            case 6: add(one("[", ".["), ":"); p(size); add("]"); break;
            default: add(one("[", ".[")); p(size); add(":", "]");
        }
    }

    private void object(int size) {
        add("{");
        for (int i = random.nextInt(4); i > 0; i--) {
            switch (random.nextInt(5)) {
                case 0: add("("); p(size / 2); add(")"); break;
                case 1: string(size / 2); break;
                case 2: knownName("$", "b"); break;
                default: add(one("a", "if", "\"c\"", "_"));
            }
            if (random.nextBoolean() || signs.get(signs.size() - 1).equals(")")) {
                add(":");
                value(size / 2);
            }
            if (i > 1) {
                add(",");
            }
        }
        add("}");
    }

    private void value(int size) {
        term(size);
        for (int i = random.nextInt(4) - 2; i > 0; i--) {
            add("|");
            term(size / 2);
        }
    }

    private void pattern(int size) {
        int way = size < 1 ? 0 : random.nextInt(4);
        if (way < 2) {
            String name = variable();
            add(name);
            known.add(name);
            return;
        }
        add(way == 2 ? "[" : "{");
        int parts = random.nextInt(12) == 0 ? 9 + random.nextInt(4) : 1 + random.nextInt(3);
        for (int i = parts; i > 0; i--) {
            if (way == 2) {
                pattern(size / 2);
            } else {
                q(size / 2);
            }
            if (i > 1) {
                add(",");
            }
        }
        add(way == 2 ? "]" : "}");
    }

    private void q(int size) {
        int way = random.nextInt(4);
        if (way == 0) {
            add("(");
            p(size);
            add(")");
        } else if (way == 1) {
            String name = variable();
            add(name);
            known.add(name);
        } else {
            add(one("a", "then", "\"b\"", "\"\"", random.nextInt(9) == 0 ? "\"\\(1)\"" : "c"));
        }
        if (way != 1 || random.nextBoolean()) {
            add(":");
            pattern(size);
        }
    }
}
