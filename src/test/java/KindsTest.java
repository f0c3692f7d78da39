/** Promises 4 and 5: what whole programs have. */
public final class KindsTest {
    public static void main(String[] args) {
        terms();
        indexes();
        strings();
        objects();
        operators();
        statements();
        patterns();
        functions();
        scopes();
        blanks();
        sidesOfKinds();
        Check.finish();
    }

    private static void terms() {
        Check.has(".", "0:1");
        Check.has("..", "1:1");
        Check.has("...a", "1:1 2:1 7:1");
        Check.has("0", "6:1");
        Check.has("9007199254740991", "6:1");
        Check.has("000000000000000000000000000012", "6:1");
        Check.has("(1)", "6:1");
        Check.has("[]", "9:1");
        Check.has("[1]", "6:1 9:1");
        Check.has("-1", "6:1 22:1");
        Check.has("- .a", "0:1 2:1 7:1 22:1");
        Check.has("1--1", "6:2 21:1 22:1");
    }

    private static void indexes() {
        Check.has(".a", "0:1 2:1 7:1");
        Check.has(".and", "0:1 2:1 7:1");
        Check.has(". .a", "0:1 2:1 7:1");
        Check.has(".a.b", "0:1 2:2 7:2");
        Check.has(".\"a\"", "0:1 2:1 7:1");
        Check.has(". \"a\" . \"b\"", "0:1 2:2 7:2");
        Check.has(". . \"a\"", "0:1 2:1 7:1");
        Check.has(".[0]", "0:1 2:1 6:1");
        Check.has(".a.[0].[].[1:].[:2]", "0:1 2:2 3:2 4:1 6:3 7:1");
        Check.has(". . [0]", "0:1 2:1 6:1");
        Check.has(".[]", "0:1 4:1");
        Check.has("..[0:1]", "1:1 3:1 6:2");
        Check.has(".a??", "0:1 2:1 5:2 7:1");
        Check.has(".a?.b[.c]?", "0:2 2:4 5:2 7:3");
        Check.has("1.a[2]", "2:2 6:2 7:1");
        Check.has("{a:1}.a", "2:1 6:1 7:2 10:1 33:1");
        Check.has("[1,2][0]", "2:1 6:3 9:1 17:1");
    }

    private static void strings() {
        Check.has("\"\"", "7:1");
        Check.has("\" !#~\\\"\\\\\\/\\b\\f\\n\\r\\t\\u0000\\u007F\\u006a\"", "7:1");
        Check.has("\"\\(1)\"", "6:1 7:2 8:1");
        Check.has("\"a\\(1)b\\( 2 # )\"\n )c\"", "6:2 7:3 8:1");
        Check.has("\"\\(\"\\(\"x\")\")\"", "7:5 8:2");
        for (int programs = 1; programs <= 20; programs++) {
            String due = "6:" + programs + " 7:" + (programs + 1) + " 8:1";
            Check.has("\"" + "\\(1)".repeat(programs) + "\"", due);
            Check.has("\"a" + "\\(1)a".repeat(programs) + "\"", due);
        }
        Check.has(".\"a\\(1)\"", "0:1 2:1 6:1 7:2 8:1");
        Check.has("..|.a.\"\\(.)\"", "0:2 1:1 2:2 7:3 8:1 16:1");
    }

    private static void objects() {
        Check.has("{}", "10:1");
        Check.has("{a}", "7:1 10:1 33:1");
        Check.has("{if,and:1}", "6:1 7:2 10:1 33:2");
        Check.has("{\"a\"}", "7:1 10:1 33:1");
        Check.has("{\"a\\(1)\":2}", "6:2 7:2 8:1 10:1 33:1");
        Check.has("{(1,2):3}", "6:3 10:1 17:1 33:1");
        Check.has("{a:1|2|3,b:.c[]?}", "0:1 2:1 4:1 5:1 6:3 7:3 10:1 16:2 33:2");
        Check.has("1 as $a|{$a,$a:2}", "6:2 7:2 10:1 11:1 26:1 30:1 33:2");
        Check.has("1 as $if|{$if}", "6:1 7:1 10:1 11:1 26:1 30:1 33:1");
    }

    private static void operators() {
        Check.has("1|2|3", "6:3 16:2");
        Check.has("1,2", "6:2 17:1");
        Check.has("1//2//3", "6:3 18:2");
        Check.has(".=1", "0:1 6:1 19:1");
        Check.has(".|=1|.+=1|.-=1|.*=1|./=1|.%=1|.//=1", "0:7 6:7 16:6 19:7");
        Check.has(".=1=2//3=4", "0:1 6:4 18:1 19:3");
        Check.has("1 or 2 and 3 or 4", "6:4 20:3");
        Check.has("1+2-3*4/5%6", "6:6 21:5");
        Check.has("1==2,1!=2,1<2,1<=2,1>2,1>=2", "6:12 17:5 21:6");
        Check.has("1==2 and 3<4 or 5>6//7<8=9>10|1!=2", "6:12 16:1 18:1 19:1 20:2 21:6");
        Check.has("1and 2or 3", "6:3 20:2");
        Check.has(".a?//1", "0:1 2:1 5:1 6:1 7:1 18:1");
        // The P of as ends before the second comparison, which the outer R has room for.
        Check.has("1 as $x|2==3==4", "6:4 21:2 26:1 30:1");
    }

    private static void statements() {
        Check.has("if 1 then 2 end", "6:2 25:1");
        Check.has("if 1 then 2 elif 3 then 4 elif 5 then 6 else 7 end", "6:7 25:3");
        Check.has("1+if 1|2 then 3,4 else 5|6 end*2", "6:8 16:2 17:1 21:2 25:1");
        Check.has("try 1", "5:1 6:1");
        Check.has("try error(1) catch .+2", "0:1 5:1 6:2 14:1 21:1");
        Check.has("reduce .[] as $x (0;.+$x)", "0:2 4:1 6:1 11:1 21:1 23:1 30:1");
        Check.has("foreach . as $x (0;1)", "0:1 6:2 24:1 30:1");
        Check.has("foreach . as $x (0;1;2)", "0:1 6:3 24:1 30:1");
        Check.has("label $a|1|break $a", "6:1 15:1 16:1 27:1");
        Check.has("label $a|break $a.b", "2:1 7:1 15:1 27:1");
        Check.has("1+. as $x|2,$x|$x", "0:1 6:2 11:2 16:1 17:1 21:1 26:1 30:1");
        Check.has("1 as $x|2 as $y|$x*$y", "6:2 11:2 21:1 26:2 30:2");
    }

    private static void patterns() {
        Check.has(". as [$a,[$b]]|1", "0:1 6:1 26:1 30:2 31:2");
        Check.has(". as {a:$a,\"b\":$b,if:$c}|1", "0:1 6:1 7:3 26:1 30:3 32:1 33:3");
        Check.has(". as {$a,$b:[$c]}|1", "0:1 6:1 7:2 26:1 30:1 31:1 32:1 33:2");
        Check.has(". as {(\"x\"):{$if}}|$if", "0:1 7:2 11:1 26:1 32:2 33:2");
        Check.has(". as [$a,{$b:{($a,$b):$c}}]|$c", "0:1 7:1 11:3 17:1 26:1 30:2 31:1 32:2 33:2");
        Check.has("reduce . as {$a,($a):$b}(1;$a+$b)", "0:1 6:1 7:1 11:3 21:1 23:1 30:1 32:1 33:2");
    }

    private static void functions() {
        String without = "null false true empty error not length keys type tostring tonumber"
                + " sort reverse explode implode floor abs";
        for (String name : without.split(" ")) {
            Check.has(name, "14:1");
            Check.has("def " + name + ":1;" + name, "6:1 12:1 28:1");
        }
        for (String name : "error has contains split join getpath sort_by group_by path".split(" ")) {
            Check.has(name + "(.)", "0:1 14:1");
        }
        for (String name : "range setpath".split(" ")) {
            Check.has(name + "(.;1)", "0:1 6:1 14:1");
        }
        Check.has("def f:1;f", "6:1 12:1 28:1");
        Check.has("def f(a;$b):a,b,$b,f(1;2);f(3;4)", "6:4 11:1 12:2 13:2 17:3 28:1");
        Check.has("def _1 ( a ) : a ; _1 ( 2 )", "6:1 12:1 13:1 28:1");
        Check.has("def f(a;b;c;d;e;f;g;h;i;$j):f;f(1;1;1;1;1;1;1;1;1;1)", "6:10 12:1 13:1 28:1");
        Check.has("def f:1;def f(a):2;f,f(3)", "6:3 12:2 17:1 28:2");
        Check.has("def f(length):length;length|f(1)", "6:1 12:1 13:1 14:1 16:1 28:1");
    }

    private static void scopes() {
        Check.has("def f:def g:f;g;f", "12:3 28:2");
        Check.has("1 as $x|def f:$x;f", "6:1 11:1 12:1 26:1 28:1 30:1");
        Check.has("label $x|def f:break $x;f", "12:1 15:1 27:1 28:1");
        Check.has("1|def f:2;f|f", "6:2 12:2 16:2 28:1");
        Check.has("1 as $x|reduce . as $x($x;$x)", "0:1 6:1 11:2 23:1 26:1 30:2");
        Check.has("foreach . as [$x]([]|1 as $x|$x;$x;$x)", "0:1 6:1 9:1 11:3 16:1 24:1 26:1 30:2 31:1");
        Check.has("1 as $x|label $x|$x,break $x", "6:1 11:1 15:1 17:1 26:1 27:1 30:1");
        Check.has("1 as $x|(2 as $x|$x)|$x", "6:2 11:2 16:1 26:2 30:2");
    }

    private static void blanks() {
        Check.has(" \t\r\n1 # 2 ( \n#\n + # \"\n 2\t#", "6:2 21:1");
        Check.has("#\200\n1", "6:1");
        Check.has("1#", "6:1");
    }

    /** What the list of the KINDS takes in and leaves out with "also", "none", "but not", "alone". */
    private static void sidesOfKinds() {
        // 0: "also that of a FIELD or of . STRING that begins a TERM, none of what stands behind one".
        Check.has(".a", "0:1 2:1 7:1");
        Check.has("1.a", "2:1 6:1 7:1");
        Check.has(".\"a\"", "0:1 2:1 7:1");
        Check.has("1.\"a\"", "2:1 6:1 7:1");
        Check.has("1.[2].[].[3:]", "2:1 3:1 4:1 6:3");
        Check.has(".a,.b|.c", "0:3 2:3 7:3 16:1 17:1");
        // 9, 10: as a TERM, neither behind one nor in a PATTERN.
        Check.has("[1][2]", "2:1 6:2 9:1");
        Check.has("1 as [{$a}]|[{}]", "6:1 7:1 9:1 10:1 26:1 31:1 32:1 33:1");
        // 11: "$NAME as a TERM, or an entry alone (without :)".
        Check.has("1 as $x|$x", "6:1 11:1 26:1 30:1");
        Check.has("1 as $x|{$x}", "6:1 7:1 10:1 11:1 26:1 30:1 33:1");
        Check.has("1 as $x|{$x:2}", "6:2 7:1 10:1 26:1 30:1 33:1");
        // 16: "also in V; but not that of as and of label"; the |= is no |.
        Check.has("{a:1|2}|3", "6:3 7:1 10:1 16:2 33:1");
        Check.has("1 as $x|2", "6:2 26:1 30:1");
        Check.has("label $x|2", "6:1 27:1");
        Check.has(".|=2", "0:1 6:1 19:1");
        // 17: no , of { }, of a PATTERN.
        Check.has("{a,b},1", "6:1 7:2 10:1 17:1 33:2");
        Check.has("1 as [$a,$b]|1,2", "6:3 17:1 26:1 30:2 31:1");
        // 21 and 22: - between two and - before one.
        Check.has("1-2", "6:2 21:1");
        Check.has("-1-2", "6:2 21:1 22:1");
        // 26: "as", but reduce and foreach have their own.
        Check.has("reduce 1 as $x(2;3)", "6:3 23:1 30:1");
        // 30: "$NAME that is no entry".
        Check.has("1 as {$a,b:$b,$c:$d}|1", "6:2 7:3 26:1 30:2 32:1 33:3");
    }
}
