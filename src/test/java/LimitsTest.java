/** Promises 4 and 6: the limits of 60 that are open and of 10 names, and the depth of the calls. */
public final class LimitsTest {
    /** The rule of LANGUAGE.md, less what the test itself and main have open. */
    private static final int MOST_CALLS = 295;

    public static void main(String[] args) {
        answersAtTheLimit();
        nestedPrograms();
        chains();
        elifs();
        curlyBrackets();
        patternBrackets();
        mixed();
        manyNames();
        longPrograms();
        Check.finish();
    }

    private static String times(int n, String text) {
        return text.repeat(n);
    }

    private static void most59(String head, String last, String tail) {
        most59(head, head.length(), last, tail);
    }

    /** With 59 heads the program is whole; the 60th is broken in it, where it opens one more. */
    private static void most59(String head, int opens, String last, String tail) {
        Check.reads(times(59, head) + last + times(59, tail));
        Check.breaksAt(times(60, head) + last + times(60, tail), head.length() * 59 + opens);
        FilterReader reader = new FilterReader();
        Check.tape(reader, times(59, head) + "=");
        Check.isTrue(head + " keeps the calls few", callsOfBroken(reader) <= MOST_CALLS);
    }

    /** Each head opens two: with the outermost P, 29 of them and one more fit into the 60. */
    private static void most29(String head) {
        Check.reads(times(29, head) + "1//1");
        Check.breaksAt(times(29, head) + "1//1//1", head.length() * 29 + 6);
        Check.breaksAt(times(30, head) + "1", head.length() * 30);
    }

    private static int callsOfBroken(FilterReader reader) {
        try {
            reader.read();
            return 0;
        } catch (UnsupportedOperationException e) {
            return e.getStackTrace().length;
        }
    }

    /** "At most 60 P, elif, right sides of // and of = and its like, { and [ of PATTERNS are open". */
    private static void answersAtTheLimit() {
        Check.has(times(59, "(") + "1" + times(59, ")"), "6:1");
        Check.has(times(60, "[") + times(60, "]"), "9:60");
        Check.has(times(59, "\"\\(") + "1" + times(59, ")\""), "6:1 7:118 8:59");
        Check.has(times(59, "1|") + "1", "6:60 16:59");
        Check.has(times(59, "1//") + "1", "6:60 18:59");
        Check.has(times(59, "1=") + "1", "6:60 19:59");
        Check.has(times(59, "1 as $x|") + "$x", "6:59 11:1 26:59 30:59");
        Check.has(times(59, "label $x|") + "break $x", "15:1 27:59");
        Check.has(times(59, "def f:1;") + "f", "6:59 12:1 28:59");
        Check.has(times(59, "def f:") + "f" + times(59, ";1"), "6:59 12:1 28:59");
        Check.has("if 1 then 2" + times(58, " elif 3 then 4") + " end", "6:118 25:59");
        Check.has(times(59, "{a:") + "1" + times(59, "}"), "6:1 7:59 10:59 33:59");
        Check.has(". as " + times(59, "{a:") + "$x" + times(59, "}") + "|1",
                "0:1 6:1 7:59 26:1 30:1 32:59 33:59");
        Check.has(". as " + times(59, "[") + "$x" + times(59, "]") + "|1", "0:1 6:1 26:1 30:1 31:59");
    }

    private static void nestedPrograms() {
        most59("(", "1", ")");
        most59("[", "1", "]");
        most59("\"\\(", "1", ")\"");
        most59(".\"\\(", "1", ")\"");
        most59("1.\"\\(", "1", ")\"");
        most59(".[", "1", "]");
        most59(".[:", "1", "]");
        most59(".[1:", 2, "1", "]");
        most59("1.[", "1", "]");
        most59("( ", "1", ")");
        most59("(#\n", "1", ")");
        most59("has(", "1", ")");
        most59("range(1;", 6, "1", ")");
        most59("if ", "1", " then 2 end");
        most59("if 1 then ", 3, "1", " end");
        most59("if 1 then 2 else ", 3, "1", " end");
        most59("def f:", "1", ";1");
        most59("def f:1;", 6, "1", "");
        most59("label $x|", "1", "");
        most59(". as $x|", "1", "");
        most59("reduce . as $x(", "1", ";1)");
        most59("reduce . as $x(1;", 15, "1", ")");
        most59("foreach . as $x(", "1", ";1)");
        most59("foreach . as $x(1;", 16, "1", ")");
        most59("foreach . as $x(1;2;", 16, "1", ")");
        most59("try (", "1", ")");
        most59("try 1 catch \"\\(", "1", ")\"");
        most59("-[", "1", "]");
        most59("reduce \"\\(", "1", ")\" as $x(1;2)");
        Check.reads(times(60, "[") + times(60, "]"));
        Check.breaksAt(times(61, "[") + times(61, "]"), 60);
        Check.reads(times(59, "(") + ".[]" + times(59, ")"));
    }

    private static void chains() {
        most59("1|", "1", "");
        most59("1//", "1", "");
        for (String operator : "= |= += -= *= /= %= //=".split(" ")) {
            most59("." + operator, "1", "");
            most29("1//." + operator + " ");
            most29("." + operator + "1//");
        }
        most59("1+. as $x|", "1", "");
        // A , and a | close the right sides before them; + and its like open none.
        Check.reads(times(59, "1//") + "1," + times(59, "1//") + "1");
        Check.reads(times(58, "1//") + "1|" + times(58, "1=") + "1");
        Check.breaksAt(times(58, "1//") + "1|" + times(59, "1=") + "1", 58 * 3 + 2 + 59 * 2);
        for (String operator : "and or + - * / % ,".split(" ")) {
            Check.reads(times(200, "1 " + operator + " ") + "1");
            Check.reads(times(59, "1//") + times(200, "1 " + operator + " ") + "1");
            Check.reads(times(59, "(") + times(200, "1 " + operator + " ") + "1" + times(59, ")"));
        }
        Check.reads(times(200, "1==2 and ") + "1");
        Check.reads("{a:" + times(200, "1|") + "1}");
        Check.breaksAt(times(59, "1//") + "(1)", 59 * 3 + 1);
        Check.breaksAt(times(59, "1//") + "{}", 59 * 3);
        Check.reads(times(59, "1//") + "[]");
    }

    private static void elifs() {
        String elif = " elif 1 then 2";
        String begin = "if 1 then 2";
        Check.reads(begin + times(58, elif) + " else 3 end");
        Check.breaksAt(begin + times(59, elif) + " end", begin.length() + 58 * elif.length() + 6);
        // With 59 open around, the first elif is the 60th, and its P one too many; then the elif is.
        Check.breaksAt(times(58, "(") + begin + elif, 58 + begin.length() + 6);
        Check.reads(times(58, "(") + begin + " else 3 end" + times(58, ")"));
        Check.reads(times(57, "(") + begin + elif + " else 3 end" + times(57, ")"));
        Check.breaksAt(times(57, "(") + begin + elif + elif, 57 + begin.length() + elif.length() + 6);
    }

    private static void curlyBrackets() {
        Check.reads(times(59, "{a:") + "1" + times(59, "}"));
        Check.breaksAt(times(60, "{a:") + "1" + times(60, "}"), 59 * 3);
        Check.breaksAt(times(58, "{a:") + "{(1):2}" + times(58, "}"), 58 * 3 + 2);
        Check.reads(times(59, "(") + "1" + times(59, ")"));
        Check.breaksAt(times(59, "(") + "{}" + times(59, ")"), 59);
        Check.reads(times(29, "{(") + "1" + times(29, "):1}"));
        Check.breaksAt(times(30, "{(") + "1" + times(30, "):1}"), 60);
        FilterReader reader = new FilterReader();
        Check.tape(reader, times(59, "{a:"));
        Check.isTrue("{ keeps the calls few", callsOfBroken(reader) <= MOST_CALLS);
        Check.tape(reader, times(29, "{a:\"\\(") + "{a:1=");
        Check.isTrue("{ and \\( keep the calls few", callsOfBroken(reader) <= MOST_CALLS);
        Check.tape(reader, times(29, "{a:has(") + "{a:1=");
        Check.isTrue("{ and ( keep the calls few", callsOfBroken(reader) <= MOST_CALLS);
    }

    private static void patternBrackets() {
        for (String fold : new String[] {"reduce . as ", "foreach . as "}) {
            Check.reads(fold + times(59, "[") + "$x" + times(59, "]") + "(1;2)");
            Check.breaksAt(fold + times(60, "[") + "$x" + times(60, "]") + "(1;2)", fold.length() + 59);
            Check.reads(fold + times(58, "[") + "{$x}" + times(58, "]") + "(1;2)");
            Check.breaksAt(fold + times(59, "[") + "{$x}" + times(59, "]") + "(1;2)", fold.length() + 59);
        }
        Check.reads(times(58, "(") + ". as [$x]|1" + times(58, ")"));
        Check.breaksAt(times(58, "(") + ". as [[$x]]|1" + times(58, ")"), 58 + 6);
        Check.breaksAt(times(59, "(") + ". as {$x}|1" + times(59, ")"), 59 + 5);
        Check.breaksAt(times(59, "(") + ". as $x|1" + times(59, ")"), 59 + 8);
        Check.reads(". as " + times(59, "[") + "$x" + times(59, "]") + "|1");
        Check.breaksAt(". as " + times(60, "[") + "$x" + times(60, "]") + "|1", 5 + 59);
        Check.reads(". as " + times(59, "{a:") + "$x" + times(59, "}") + "|1");
        Check.breaksAt(". as " + times(60, "{a:") + "$x" + times(60, "}") + "|1", 5 + 59 * 3);
        Check.breaksAt(". as " + times(59, "[") + "{$x}" + times(59, "]") + "|1", 5 + 59);
        Check.breaksAt(". as " + times(59, "{(1):") + "$x" + times(59, "}") + "|1", 5 + 58 * 5 + 2);
        String nested = "1 as {(";
        FilterReader reader = new FilterReader();
        Check.tape(reader, times(29, nested) + "=");
        Check.isTrue("patterns keep the calls few", callsOfBroken(reader) <= MOST_CALLS);
        Check.reads(times(29, nested) + "1" + times(29, "):$x}|1"));
        Check.breaksAt(times(30, nested) + "1" + times(30, "):$x}|1"), 30 * nested.length());
    }

    private static void mixed() {
        // ( and [ and their like open one, as does //; { opens one, and the ( in it.
        String six = "(1//[{a:(1 as $x|";
        Check.breaksAt(times(9, six) + "1|2|3|4|5|6|7", six.length() * 9 + 12);
        Check.breaksAt(times(9, six) + "1|2|3|4|5|{}", six.length() * 9 + 10);
        // What is closed is open no more.
        Check.reads(times(200, "(1|2),[1//2],{a:1},") + "1");
        Check.reads(times(100, "if 1 then 2 elif 3 then 4 end,") + "1");
        Check.reads(times(200, "(def f:1;f),(1 as $x|$x),(label $x|1),") + "1");
    }

    private static void manyNames() {
        String ten = "$a,$b,$c,$d,$e,$f,$g,$h,$i,$j";
        Check.reads(". as [" + ten + "]|" + ten);
        Check.breaksAt(". as [" + ten + ",$k]|1", 6 + ten.length() + 1);
        Check.breaksAt(". as [" + ten + ",$a]|1", 6 + ten.length() + 1);
        Check.breaksAt(". as [" + ten + ",{$k}]|1", 6 + ten.length() + 2);
        Check.breaksAt(". as [" + ten + ",{a:$k}]|1", 6 + ten.length() + 4);
        Check.reads(". as {" + ten + "}|" + ten);
        Check.breaksAt("reduce . as [" + ten + ",$k](1;2)", 13 + ten.length() + 1);
        // The names of a PATTERN in the ( P ) of another are its own.
        Check.reads(". as {$z,(. as [" + ten + "]|1):[$a,$b,$c,$d,$e,$f,$g,$h,$i]}|$i");
        String parameters = "a;$b;c;d;e;f;g;h;i;j";
        Check.reads("def f(" + parameters + "):a,b,$b,j;1");
        Check.breaksAt("def f(" + parameters + ";k):1;1", 6 + parameters.length() + 1);
        Check.breaksAt("def f(" + parameters + ";$k):1;1", 6 + parameters.length() + 1);
        Check.breaksAt("has(1;2;3;4;5;6;7;8;9;10;11)", 0);
        // All names that may be known at a time: the outermost are known in the innermost.
        String def = "def f0($z;$b;$c;$d;$e;$f;$g;$h;$i;$j):";
        String inner = "def f($a;$b;$c;$d;$e;$f;$g;$h;$i;$j):";
        Check.reads(def + times(58, inner) + "$z,z" + times(59, ";1"));
    }

    private static void longPrograms() {
        Check.has(times(5000, "1,") + "1", "6:5001 17:5000");
        Check.has(times(5000, "1+") + "1", "6:5001 21:5000");
        Check.has("." + times(8000, "?"), "0:1 5:8000");
        Check.has("[" + times(2000, "not==1,") + "1]", "6:2001 9:1 14:2000 17:2000 21:2000");
        Check.breaksAt(times(16380, " "), 16380);
    }
}
