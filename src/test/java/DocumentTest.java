import java.util.Map;
import java.util.TreeMap;

/**
 * The grammar and the KINDS (section Terms), part by part: each part stands wherever the document
 * lets it stand, and has its KINDS there. Each method has the sentence that it tests.
 */
public final class DocumentTest {
    private static final String[] OPERATORS = ("| , // = |= += -= *= /= %= //= or and == != < <= > >="
            + " + - * / %").split(" ");
    private static final String[] OPERATOR_KINDS = ("16 17 18 19 19 19 19 19 19 19 19 20 20 21 21 21 21 21"
            + " 21 21 21 21 21 21").split(" ");
    /** A program, and the KINDS that it has. */
    private static final String[][] TERMS = {
        {".", "0:1"}, {"..", "1:1"}, {".a", "0:1 2:1 7:1"}, {".\"a\"", "0:1 2:1 7:1"},
        {".\"a\\(1)\"", "0:1 2:1 6:1 7:2 8:1"}, {"1", "6:1"}, {"\"a\"", "7:1"},
        {"\"\\(1)\\(..)\"", "1:1 6:1 7:3 8:1"}, {"(1)", "6:1"}, {"[]", "9:1"}, {"[1]", "6:1 9:1"},
        {"{}", "10:1"}, {"{a:1,if}", "6:1 7:2 10:1 33:2"}, {"null", "14:1"}, {"has(1)", "6:1 14:1"},
        {"range(1;..)", "1:1 6:1 14:1"}, {"$v", "11:1"}, {"break $v", "15:1"}, {"d", "12:1"},
        {"d(1)", "6:1 12:1"}, {"{$v}", "7:1 10:1 11:1 33:1"}, {"{$v:1}", "6:1 7:1 10:1 33:1"}};
    private static final String[][] TAILS = {
        {".b", "2:1 7:1"}, {".else", "2:1 7:1"}, {".\"b\"", "2:1 7:1"}, {" . \"b\\(..)\"", "1:1 2:1 7:2 8:1"},
        {"[]", "4:1"}, {".[]", "4:1"}, {"[1]", "2:1 6:1"}, {".[1]", "2:1 6:1"}, {"[1:..]", "1:1 3:1 6:1"},
        {".[1:..]", "1:1 3:1 6:1"}, {"[1:]", "3:1 6:1"}, {".[1:]", "3:1 6:1"}, {"[:1]", "3:1 6:1"},
        {".[:1]", "3:1 6:1"}, {"?", "5:1"}};
    /** What a T may be beside a TERM. */
    private static final String[][] OTHERS = {
        {"-1", "6:1 22:1"}, {"reduce . as $x(1;$x)", "0:1 6:1 11:1 23:1 30:1"},
        {"foreach . as $x(1;$x)", "0:1 6:1 11:1 24:1 30:1"},
        {"foreach . as $x(1;2;$x)", "0:1 6:2 11:1 24:1 30:1"}, {"if 1 then 2 end", "6:2 25:1"},
        {"if 1 then 2 elif 3 then 4 else .. end", "1:1 6:4 25:2"}, {"try 1", "5:1 6:1"},
        {"try 1 catch .", "0:1 5:1 6:1"}, {". as $x|$x", "0:1 11:1 26:1 30:1"}};
    /** What a P may be beside a C. */
    private static final String[][] PROGRAMS = {
        {"def f:1;f", "6:1 12:1 28:1"}, {"def f(a;$b):a,b|$b;f(1;2)", "6:2 11:1 12:1 13:2 16:1 17:1 28:1"},
        {". as $x|$x", "0:1 11:1 26:1 30:1"}, {"label $x|break $x", "15:1 27:1"}, {"1|2", "6:2 16:1"},
        {"1,2", "6:2 17:1"}, {"1|def f:1;2|label $x|3", "6:4 16:2 27:1 28:1"}};
    /** Where a P may stand: at the @. */
    private static final String[][] PLACES = {
        {"(@)", ""}, {"[@]", "9:1"}, {"\"\\(@)\"", "7:2 8:1"}, {".\"\\(@)\"", "0:1 2:1 7:2 8:1"},
        {"..[@]", "1:1 2:1"}, {"..[@:]", "1:1 3:1"}, {"..[:@]", "1:1 3:1"}, {"..[1:@]", "1:1 3:1 6:1"},
        {"has(@)", "14:1"}, {"range(@;1)", "6:1 14:1"}, {"range(1;@)", "6:1 14:1"},
        {"{(@):1}", "6:1 10:1 33:1"}, {"{\"\\(@)\"}", "7:2 8:1 10:1 33:1"}, {"if @ then 1 end", "6:1 25:1"},
        {"if 1 then @ end", "6:1 25:1"}, {"if 1 then 2 else @ end", "6:2 25:1"},
        {"if 1 then 2 elif @ then 3 end", "6:3 25:2"}, {"if 1 then 2 elif 3 then @ end", "6:3 25:2"},
        {"reduce . as $q(@;1)", "0:1 6:1 23:1 30:1"}, {"reduce . as $q(1;@)", "0:1 6:1 23:1 30:1"},
        {"foreach . as $q(@;1;2)", "0:1 6:2 24:1 30:1"}, {"foreach . as $q(1;@)", "0:1 6:1 24:1 30:1"},
        {"foreach . as $q(1;2;@)", "0:1 6:2 24:1 30:1"}, {"def q:@;1", "6:1 28:1"},
        {"def q:1;@", "6:1 28:1"}, {"label $q|@", "27:1"}, {"1|@", "6:1 16:1"},
        {"1 as $q|@", "6:1 26:1 30:1"}, {"1 as {(@):$q}|2", "6:2 26:1 30:1 32:1 33:1"},
        {"1+2 as $q|@", "6:2 21:1 26:1 30:1"}};
    private static final String[][] PATTERNS = {
        {"$x", "30:1"}, {"[$x]", "30:1 31:1"}, {"[$y,$x]", "30:2 31:1"}, {"[[$x],{$y}]", "7:1 30:1 31:2 32:1 33:1"},
        {"{$x}", "7:1 32:1 33:1"}, {"{$x:$y}", "7:1 30:1 32:1 33:1"}, {"{a:$x}", "7:1 30:1 32:1 33:1"},
        {"{if:$x}", "7:1 30:1 32:1 33:1"}, {"{\"a\":$x}", "7:1 30:1 32:1 33:1"},
        {"{(1):$x}", "6:1 30:1 32:1 33:1"}, {"{$y,a:[$x]}", "7:2 30:1 31:1 32:1 33:2"},
        {"{$y:{$x}}", "7:2 32:2 33:2"}};

    public static void main(String[] args) {
        termsAndTails();
        tailsAndTails();
        operators();
        operandsOfOperators();
        programsInPlaces();
        patternsInPlaces();
        stringsInPlaces();
        termsAlone();
        asGoesAsFarAsItCan();
        labelGoesAsFarAsItCan();
        whereScopesEnd();
        noSignAtEachPlace();
        rightSidesOverOperators();
        curlyBracketsOfTerms();
        Check.finish();
    }

    /** Adds up KINDS that are written as Check.has takes them. */
    private static String sum(String... lists) {
        Map<Integer, Integer> all = new TreeMap<>();
        for (String list : lists) {
            for (String part : list.trim().split(" ")) {
                if (!part.isEmpty()) {
                    int colon = part.indexOf(':');
                    all.merge(Integer.valueOf(part.substring(0, colon)),
                            Integer.valueOf(part.substring(colon + 1)), Integer::sum);
                }
            }
        }
        StringBuilder text = new StringBuilder();
        all.forEach((kind, many) -> text.append(kind).append(':').append(many).append(' '));
        return text.toString();
    }

    /** Makes the names of TERMS known around the program. */
    private static void hasInside(String program, String kinds) {
        Check.has("1 as $v|label $v|def d:1;def d(a):1;" + program,
                sum("6:3 26:1 27:1 28:2 30:1", kinds));
    }

    /** "TERM: one of ..., then {FIELD | . STRING | [.] [ ] | [.] [ P ] | [.] [ [P] : [P] ] | ?}". */
    private static void termsAndTails() {
        for (String[] term : TERMS) {
            hasInside(term[0], term[1]);
            for (String[] tail : TAILS) {
                // A . and what is behind it would be .. or a FIELD: a blank keeps them apart.
                hasInside(term[0] + " " + tail[0], sum(term[1], tail[1]));
                if (!term[0].equals(".") || tail[0].charAt(0) != '.') {
                    hasInside(term[0] + tail[0], sum(term[1], tail[1]));
                }
            }
        }
    }

    /** The same: in any order, as many as one likes. */
    private static void tailsAndTails() {
        StringBuilder all = new StringBuilder("1");
        String kinds = "6:1";
        for (String[] first : TAILS) {
            all.append(first[0]);
            kinds = sum(kinds, first[1]);
            for (String[] second : TAILS) {
                Check.has("1" + first[0] + second[0], sum("6:1", first[1], second[1]));
            }
        }
        Check.has(all.toString(), kinds);
    }

    /** "16 |, 17 ",", 18 //, 19 = and its like, 20 and, or, 21 + and its like and comparisons". */
    private static void operators() {
        for (int i = 0; i < OPERATORS.length; i++) {
            String kinds = "6:2 " + OPERATOR_KINDS[i] + ":1";
            Check.has("1 " + OPERATORS[i] + " 2", kinds);
            Check.has("1\n" + OPERATORS[i] + "#\n2", kinds);
            if (!OPERATORS[i].equals("or") && !OPERATORS[i].equals("and")) {
                Check.has("1" + OPERATORS[i] + "2", kinds);
            }
            Check.breaksAt("1 " + OPERATORS[i], 2 + OPERATORS[i].length());
            if (!OPERATORS[i].equals("-")) {
                Check.breaksAt(OPERATORS[i] + " 1", 0);
            }
        }
    }

    /** "C: A {, A}" to "M: T {(* | / | %) T}": a T may stand on both sides of each. */
    private static void operandsOfOperators() {
        for (int i = 0; i < OPERATORS.length; i++) {
            String kind = OPERATOR_KINDS[i] + ":1";
            for (String[] other : OTHERS) {
                Check.has("1 " + OPERATORS[i] + " " + other[0], sum("6:1", kind, other[1]));
                Check.has(other[0] + " " + OPERATORS[i] + " 1", sum("6:1", kind, other[1]));
            }
            for (String[] term : TERMS) {
                hasInside(term[0] + " " + OPERATORS[i] + " " + term[0], sum(term[1], kind, term[1]));
            }
        }
    }

    /** "P: def F : P ; P | TERM as PATTERN | P | label $NAME | P | C [| P]": wherever a P stands. */
    private static void programsInPlaces() {
        for (String[] place : PLACES) {
            for (String[][] list : new String[][][] {PROGRAMS, OTHERS}) {
                for (String[] program : list) {
                    Check.has(place[0].replace("@", program[0]), sum(place[1], program[1]));
                    Check.has(place[0].replace("@", " " + program[0] + " "), sum(place[1], program[1]));
                }
            }
            for (String[] term : TERMS) {
                hasInside(place[0].replace("@", term[0]), sum(place[1], term[1]));
            }
            Check.breaksAt(place[0].replace("@", ")1"), place[0].indexOf('@'));
        }
    }

    /** "of patterns 30 $NAME that is no entry, 31 [ ], 32 { }": behind as of each. */
    private static void patternsInPlaces() {
        for (String[] pattern : PATTERNS) {
            Check.has(". as " + pattern[0] + "|$x", sum("0:1 11:1 26:1", pattern[1]));
            Check.has("1+. as " + pattern[0] + "|$x", sum("0:1 6:1 11:1 21:1 26:1", pattern[1]));
            Check.has("reduce . as " + pattern[0] + "(1;$x)", sum("0:1 6:1 11:1 23:1", pattern[1]));
            Check.has("foreach . as " + pattern[0] + "(1;$x)", sum("0:1 6:1 11:1 24:1", pattern[1]));
            Check.has("foreach . as " + pattern[0] + "(1;2;$x)", sum("0:1 6:2 11:1 24:1", pattern[1]));
            Check.has(". as [" + pattern[0] + ",$z]|$x", sum("0:1 11:1 26:1 30:1 31:1", pattern[1]));
            Check.has(". as {z:" + pattern[0] + "}|$x", sum("0:1 7:1 11:1 26:1 32:1 33:1", pattern[1]));
        }
    }

    /** "STRING: as JSON's, but \( P ) may stand in it": as a TERM, behind . and as an entry's name. */
    private static void stringsInPlaces() {
        String[][] strings = {{"\"\"", "7:1"}, {"\"a\\n\\u0041\"", "7:1"}, {"\"\\(1)\"", "6:1 7:2 8:1"},
            {"\"\\(1)\\(2)\"", "6:2 7:3 8:1"}, {"\"a\\(1)b\\(2)c\"", "6:2 7:3 8:1"},
            {"\"\\(\"\\(1)\")\"", "6:1 7:4 8:2"}, {"\"\\(\")\")\"", "7:3 8:1"}};
        for (String[] string : strings) {
            Check.has(string[0], string[1]);
            Check.has("." + string[0], sum("0:1 2:1", string[1]));
            Check.has("1." + string[0], sum("2:1 6:1", string[1]));
            Check.has("{" + string[0] + "}", sum("10:1 33:1", string[1]));
            Check.has("{" + string[0] + ":1}", sum("6:1 10:1 33:1", string[1]));
            Check.has("{a:" + string[0] + "}", sum("7:1 10:1 33:1", string[1]));
        }
    }

    /** Where the document says TERM, nothing else of T stands; each TERM does, with what is behind. */
    private static void termsAlone() {
        String[][] places = {{"-@", "22:1"}, {"try @", "5:1"}, {"try 1 catch @", "5:1 6:1"},
            {"{a:@}", "7:1 10:1 33:1"}, {"{a:1|@}", "6:1 7:1 10:1 16:1 33:1"},
            {"reduce @ as $q(1;2)", "6:2 23:1 30:1"}, {"foreach @ as $q(1;2)", "6:2 24:1 30:1"},
            {"@ as $q|1", "6:1 26:1 30:1"}};
        for (String[] place : places) {
            for (String[] term : TERMS) {
                hasInside(place[0].replace("@", term[0]), sum(place[1], term[1]));
                hasInside(place[0].replace("@", term[0] + "?"), sum(place[1], "5:1", term[1]));
            }
            int at = place[0].indexOf('@');
            for (String begin : "- reduce foreach if try def label".split(" ")) {
                // As the first of a program these stand, but the as behind them does not.
                if (at > 0) {
                    Check.breaksAt(place[0].replace("@", begin + " 1"), at);
                }
            }
        }
        Check.breaksAtMark("-1 ^as $q|1");
        Check.breaksAtMark("try 1 ^as $q|1");
        Check.breaksAtMark("if 1 then 2 end ^as $q|1");
        Check.breaksAtMark("reduce 1 as $x(1;2) ^as $q|1");
    }

    /** "TERM as PATTERN | P (as a P: what is behind goes as far as it can)". */
    private static void asGoesAsFarAsItCan() {
        for (String before : OPERATORS) {
            for (String inside : OPERATORS) {
                Check.reads("1 " + before + " 2 as $x|3 " + inside + " $x");
                Check.reads("1 " + before + " 2 as $x|3 " + inside + " $x|$x,$x//$x=$x or $x and $x+$x");
            }
        }
    }

    /** "label $NAME | P", "def F : P ; P": what is behind goes as far. */
    private static void labelGoesAsFarAsItCan() {
        for (String inside : OPERATORS) {
            Check.reads("label $x|3 " + inside + " break $x");
            Check.reads("label $x|3 " + inside + " break $x|1,break $x");
            Check.reads("def f:1;3 " + inside + " f|1,f");
        }
    }

    /** "that are not known where they stand": what ends the P ends what it makes known. */
    private static void whereScopesEnd() {
        String[] heads = {"1 as $x|2", "label $x|2", "def x:1;2"};
        String[] uses = {"$x", "break $x", "x"};
        int[] places = {0, 6, 0};
        String[] ends = {"(@),", "[@]|", "if @ then ", "if 1 then @ elif ", "if 1 then @ else ", "range(@;",
            ".[@:", "{(@):", "\"\\(@)\\(", "reduce 1 as $q(@;", "foreach 1 as $q(1;@;", "def q:@;",
            "1 as {(@):$q}|", "1 as {(@):$q,(", "(@).[", "has(@).\"\\("};
        for (int i = 0; i < heads.length; i++) {
            for (String end : ends) {
                String before = end.replace("@", heads[i]);
                Check.breaksAt(before + uses[i], before.length() + places[i]);
            }
        }
    }

    /** "at the PLACE of ... the first of its signs that can't stand there": a byte 1 never can. */
    private static void noSignAtEachPlace() {
        String[] programs = {
            "def f : 1 ; def f ( a ; $b ) : if a then [ 1 , 2 ] elif b then - . else { b : $b , ( . ) : 1 | 2 , $b } end ; f ( 1 ; 2 )",
            "reduce .. [ 1 : ] as [ $x , { $y : [ $z ] , if : $a , ( $x ) : $b } ] ( . ; $x // $y = $z ) | .a ?",
            "label $x | foreach . . \"a\" as $y ( 1 ; 2 ; $y . [ ] ) , break $x . [ : 3 ] , try error ( 1 ) catch .",
            "1 as $x | . |= $x + 1 * 2 - 3 / 4 % 5 == 6 and 7 != 8 or 9 < 10 // error ( $x ) >= 11"};
        for (String program : programs) {
            Check.reads(program);
            StringBuilder before = new StringBuilder();
            for (String sign : program.split(" ")) {
                Check.breaksAt(before + "\1" + program.substring(before.length()), before.length());
                Check.breaksAt(before + "\1", before.length());
                before.append(sign).append(' ');
            }
            Check.breaksAt(before + "\1", before.length());
        }
        // But a NAME without its ( ) is a call without parameters.
        Check.breaksAtMark("1|^range \1 ( 1 ; 2 )");
    }

    /** "At most 60 ... right sides of // and of = and its like": no or, and, + and its like ends one. */
    private static void rightSidesOverOperators() {
        for (String between : "or and == + - * / %".split(" ")) {
            for (String opening : "// = |= //=".split(" ")) {
                String head = "1 " + between + " 2 " + opening + " ";
                Check.reads(head.repeat(59) + "3");
                Check.breaksAt(head.repeat(60) + "3", head.length() * 60);
            }
        }
        // A , ends them, and so does a |, which opens a P.
        Check.reads("1//2=3,".repeat(100) + "4");
        Check.reads("1//2=3|".repeat(57) + "1//2=3");
        Check.breaksAt("1//2=3|".repeat(58) + "1//2=3", 58 * 7 + 5);
    }

    /** "{ (of TERMS, too)": in each place of a TERM; the first sign of one more is the { itself. */
    private static void curlyBracketsOfTerms() {
        for (String head : new String[] {"{a:", "{a:1|", "{a,b:", "{\"a\":"}) {
            Check.reads(head.repeat(58) + "{}" + "}".repeat(58));
            Check.breaksAt(head.repeat(59) + "{}" + "}".repeat(59), head.length() * 59);
        }
        Check.reads("{a:{}|".repeat(58) + "{}" + "}".repeat(58));
        Check.breaksAt("{a:{}|".repeat(59) + "1" + "}".repeat(59), 58 * 6 + 3);
        for (String head : new String[] {"-", "try ", "try 1 catch ", "1+", "1,", "1 as $x|2+"}) {
            int deep = head.startsWith("1 as") ? 57 : 58;
            Check.reads("(".repeat(deep) + head + "{}" + ")".repeat(deep));
            Check.breaksAt("(".repeat(deep + 1) + head + "{}", deep + 1 + head.length());
        }
    }
}
