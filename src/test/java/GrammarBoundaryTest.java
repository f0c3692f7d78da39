/**
 * The boundaries of the grammar (section Terms): how many of each part there must and may be, and
 * where names are known. Each method has the sentence that it tests.
 */
public final class GrammarBoundaryTest {
    private static final String[] COMPARISONS = "== != < <= > >=".split(" ");
    private static final String[] ASSIGNMENTS = "= |= += -= *= /= %= //=".split(" ");

    public static void main(String[] args) {
        parameters();
        namesOfPatterns();
        namesOfPatternsInPatterns();
        oneComparison();
        comparisonBehindAs();
        rightSides();
        programsOfFolds();
        branches();
        oneCatch();
        oneSign();
        partsOfTerms();
        slices();
        dots();
        entries();
        values();
        patterns();
        stringsOfPatterns();
        knownAnywhere();
        brokenArgumentsComeFirst();
        scopesOfFunctions();
        scopesOfParameters();
        scopesOfVariables();
        scopesOfFolds();
        scopesOfPatterns();
        scopesOfLabels();
        Check.finish();
    }

    /** The first so many of the items, with the sign between them. */
    private static String list(int many, String prefix, String between) {
        StringBuilder text = new StringBuilder();
        for (int i = 0; i < many; i++) {
            text.append(i == 0 ? "" : between).append(prefix).append((char) ('a' + i));
        }
        return text.toString();
    }

    /** "at most 10 PARAMS"; "of PARAMS and these the 11th is broken". */
    private static void parameters() {
        Check.has("def p:1;p", "6:1 12:1 28:1");
        Check.breaksAtMark("def p(^):1;1");
        for (String prefix : new String[] {"", "$"}) {
            for (int many = 1; many <= 10; many++) {
                Check.has("def p(" + list(many, prefix, ";") + "):a;p(" + ".;".repeat(many - 1) + ".)",
                        "0:" + many + " 12:1 13:1 28:1");
            }
            String ten = "def p(" + list(10, prefix, ";") + ";";
            Check.breaksAt(ten + "k):1;1", ten.length());
            Check.breaksAt(ten + "$k):1;1", ten.length());
            Check.breaksAt(ten + "a):1;1", ten.length());
            Check.breaksAt(ten + " k;l):1;1", ten.length() + 1);
            Check.breaksAt(ten, ten.length());
            Check.breaksAt(ten + ")", ten.length());
        }
        // Each def has ten of its own.
        String def = "def p(" + list(10, "$", ";") + "):";
        Check.reads(def + def + "$a;1;1");
    }

    /** "with at most 10 $NAMES in all (of PARAMS and these the 11th is broken)". */
    private static void namesOfPatterns() {
        String array = "1 as [" + list(10, "$", ",");
        Check.has(array + "]|$j", "6:1 11:1 26:1 30:10 31:1");
        Check.breaksAt(array + ",$k]|1", array.length() + 1);
        Check.breaksAt(array + ",$a]|1", array.length() + 1);
        Check.breaksAt(array + ", [[$k]]]|1", array.length() + 4);
        Check.breaksAt(array + ",{$k}]|1", array.length() + 2);
        Check.breaksAt(array + ",{k:$k}]|1", array.length() + 4);
        Check.breaksAt(array + ",{$k:[$l]}]|1", array.length() + 2);
        String object = "1 as {" + list(10, "$", ",");
        Check.has(object + "}|$j", "6:1 7:10 11:1 26:1 32:1 33:10");
        Check.breaksAt(object + ",$k}|1", object.length() + 1);
        Check.breaksAt(object + ":$k}|1", object.length() + 1);
        Check.breaksAt(object + ",k:$k}|1", object.length() + 3);
        String five = "1 as {$a:$b,$c:$d,$e:$f,$g:$h,$i:";
        Check.has(five + "$j}|1", "6:2 7:5 26:1 30:5 32:1 33:5");
        Check.breaksAt(five + "[$j,$k]}|1", five.length() + 4);
        for (String head : new String[] {"reduce 1 as [", "foreach 1 as ["}) {
            String ten = head + list(10, "$", ",");
            Check.reads(ten + "](1;$j)");
            Check.breaksAt(ten + ",$k](1;2)", ten.length() + 1);
        }
    }

    /** The same: a PATTERN in the ( P ) of a PATTERN has ten of its own. */
    private static void namesOfPatternsInPatterns() {
        String inner = "(1 as [" + list(10, "$", ",") + "]|1)";
        String outer = "1 as {" + inner + ":[" + list(9, "$", ",");
        Check.reads(outer + ",$j]}|1");
        Check.breaksAt(outer + ",$j,$k]}|1", outer.length() + 4);
        Check.reads("1 as {" + list(9, "$", ",") + "," + inner + ":$j}|1");
        Check.breaksAt("1 as {$a,(1 as [" + list(10, "$", ",") + ",$k]|1):$b}|1", 6 + 10 + 29 + 1);
        // $NAMES as TERMS are none of the PATTERN's.
        Check.reads("1 as {$a,(" + "$a,".repeat(20) + "$a):$b}|1");
    }

    /** "R: S [(== | != | < | <= | > | >=) S]": one, not two. */
    private static void oneComparison() {
        for (String first : COMPARISONS) {
            Check.has("1" + first + "2", "6:2 21:1");
            for (String second : COMPARISONS) {
                Check.breaksAt("1 " + first + " 2 " + second + " 3", 5 + first.length());
                Check.breaksAt("1+2 " + first + " 3*4 " + second + " 5", 9 + first.length());
                Check.has("1" + first + "2 and 3" + second + "4", "6:4 20:1 21:2");
                Check.has("1" + first + "(2" + second + "3)", "6:3 21:2");
            }
        }
        for (String between : "and or , | // = |= += //=".split(" ")) {
            Check.reads("1==2 " + between + " 3==4");
            Check.breaksAt("1==2 " + between + " 3==4 ==5", 11 + between.length());
        }
        for (String between : "+ - * / %".split(" ")) {
            Check.breaksAt("1==2 " + between + " 3==4", 7 + between.length());
        }
    }

    /** The same behind "TERM as PATTERN | P" as a T: the R in which it stands may have one itself. */
    private static void comparisonBehindAs() {
        Check.has("1 as $x|2==3==4", "6:4 21:2 26:1 30:1");
        Check.breaksAtMark("1 as $x|2==3==4^==5");
        Check.breaksAtMark("0==1 as $x|2==3^==4");
        Check.breaksAtMark("label $x|2==3^==4");
        Check.breaksAtMark("def f:1;2==3^==4");
        Check.breaksAtMark("1|2==3^==4");
    }

    /** "A: U [// A]. U: O [(= | ...) O']; O' is an A": as many as may be open. */
    private static void rightSides() {
        for (String first : ASSIGNMENTS) {
            Check.has("." + first + "1", "0:1 6:1 19:1");
            Check.breaksAt(". " + first, 2 + first.length());
            Check.breaksAt(". " + first + " )", 3 + first.length());
            Check.breaksAt(". " + first + " def f:1;f", 3 + first.length());
            for (String second : ASSIGNMENTS) {
                Check.has("." + first + "1" + second + "2", "0:1 6:2 19:2");
            }
            Check.has("." + first + "1//2", "0:1 6:2 18:1 19:1");
            Check.has(".//1" + first + "2", "0:1 6:2 18:1 19:1");
        }
        Check.breaksAtMark("1//^");
        Check.breaksAtMark("1//^//2");
        Check.breaksAtMark("1//^/2");
    }

    /** "reduce TERM as PATTERN ( P ; P ) | foreach TERM as PATTERN ( P ; P [; P] )". */
    private static void programsOfFolds() {
        Check.breaksAtMark("reduce . as $x(^)");
        Check.breaksAtMark("reduce . as $x(1^)");
        Check.breaksAtMark("reduce . as $x(1;^)");
        Check.has("reduce . as $x(1;2)", "0:1 6:2 23:1 30:1");
        Check.breaksAtMark("reduce . as $x(1;2^;3)");
        Check.breaksAtMark("foreach . as $x(^)");
        Check.breaksAtMark("foreach . as $x(1^)");
        Check.has("foreach . as $x(1;2)", "0:1 6:2 24:1 30:1");
        Check.breaksAtMark("foreach . as $x(1;2;^)");
        Check.has("foreach . as $x(1;2;3)", "0:1 6:3 24:1 30:1");
        Check.breaksAtMark("foreach . as $x(1;2;3^;4)");
    }

    /** "if P then P {elif P then P} [else P] end". */
    private static void branches() {
        Check.breaksAtMark("if ^then 2 end");
        Check.breaksAtMark("if 1 ^end");
        Check.breaksAtMark("if 1 then ^end");
        Check.has("if 1 then 2 end", "6:2 25:1");
        Check.breaksAtMark("if 1 then 2 else ^end");
        Check.has("if 1 then 2 else 3 end", "6:3 25:1");
        Check.breaksAtMark("if 1 then 2 else 3 ^else 4 end");
        Check.breaksAtMark("if 1 then 2 elif ^then 4 end");
        Check.breaksAtMark("if 1 then 2 elif 3 ^end");
        Check.breaksAtMark("if 1 then 2 elif 3 then ^end");
        Check.has("if 1 then 2 elif 3 then 4 end", "6:4 25:2");
        Check.breaksAtMark("if 1 then 2 else 3 ^elif 4 then 5 end");
        Check.breaksAtMark("if 1 ^elif 2 then 3 end");
        Check.breaksAtMark("if 1 then 2 end ^end");
    }

    /** "try TERM [catch TERM]". */
    private static void oneCatch() {
        Check.breaksAtMark("try ^catch 1");
        Check.has("try 1", "5:1 6:1");
        Check.has("try 1 catch 2", "5:1 6:2");
        Check.breaksAtMark("try 1 catch ^");
        Check.breaksAtMark("try 1 catch 2 ^catch 3");
        Check.breaksAtMark("try 1 catch ^try 2");
        Check.breaksAtMark("try 1 catch ^-2");
        Check.has("try (try 1 catch 2) catch 3", "5:2 6:3");
    }

    /** "T: [-] TERM". */
    private static void oneSign() {
        Check.has("1", "6:1");
        Check.has("-1", "6:1 22:1");
        Check.breaksAtMark("-^-1");
        Check.breaksAtMark("- ^- 1");
        Check.has("-(-1)", "6:1 22:2");
        Check.has("1- -1", "6:2 21:1 22:1");
        Check.breaksAtMark("1- -^-1");
        Check.breaksAtMark("-^reduce 1 as $x(1;2)");
        Check.breaksAtMark("-1 ^as $x|1");
        Check.breaksAtMark("^+1");
    }

    /** "( P ) | [ [P] ] | { [E {, E}] } | NAME [( P {; P} )]". */
    private static void partsOfTerms() {
        Check.breaksAtMark("(^)");
        Check.has("(1)", "6:1");
        Check.breaksAtMark("(1^;2)");
        Check.has("[]", "9:1");
        Check.has("[1]", "6:1 9:1");
        Check.breaksAtMark("[^,]");
        Check.breaksAtMark("[1,^]");
        Check.has("{}", "10:1");
        Check.has("{a}", "7:1 10:1 33:1");
        Check.has("{a,b}", "7:2 10:1 33:2");
        Check.breaksAtMark("{^,}");
        Check.breaksAtMark("{a,^}");
        Check.breaksAtMark("{a ^b}");
        Check.has("error", "14:1");
        Check.breaksAtMark("error(^)");
        Check.has("error(1)", "6:1 14:1");
        Check.breaksAtMark("error(1;^)");
        Check.breaksAtMark("error(^;1)");
    }

    /** "[.] [ ] | [.] [ P ] | [.] [ [P] : [P] ] (not both left out)". */
    private static void slices() {
        for (String dot : new String[] {"", ".", " . "}) {
            Check.has("1" + dot + "[]", "4:1 6:1");
            Check.has("1" + dot + "[2]", "2:1 6:2");
            Check.has("1" + dot + "[2:3]", "3:1 6:3");
            Check.has("1" + dot + "[2:]", "3:1 6:2");
            Check.has("1" + dot + "[:3]", "3:1 6:2");
            Check.breaksAtMark("1" + dot + "[:^]");
            Check.breaksAtMark("1" + dot + "[^");
            Check.breaksAtMark("1" + dot + "[2^");
            Check.breaksAtMark("1" + dot + "[2:^:]");
            Check.breaksAtMark("1" + dot + "[2:3^:4]");
            Check.breaksAtMark("1" + dot + "[:^:]");
            Check.breaksAtMark("1" + dot + "[^;]");
        }
    }

    /** ". itself may have [ behind"; ". STRING". */
    private static void dots() {
        Check.has(".", "0:1");
        Check.has(".[]", "0:1 4:1");
        Check.has(". []", "0:1 4:1");
        Check.has("..[]", "1:1 4:1");
        Check.has("...[]", "1:1 4:1");
        Check.breaksAtMark("..^..");
        Check.breaksAtMark("1.^");
        Check.breaksAtMark("1.^?");
        Check.breaksAtMark("1.^(2)");
        Check.breaksAtMark("1.^2");
        Check.breaksAtMark("1 ^..");
        Check.breaksAtMark("1^\"a\"");
        Check.has("1.\"a\"", "2:1 6:1 7:1");
        Check.breaksAtMark("1.\"a\"^\"b\"");
        Check.breaksAtMark(".\"a\"^\"b\"");
    }

    /** "E: (NAME | a word | STRING | $NAME | ( P )) [: V] (needed behind ( P ))". */
    private static void entries() {
        String[] keys = {"a", "if", "\"a\"", "\"\\(1)\"", "$x"};
        for (String key : keys) {
            Check.reads("1 as $x|{" + key + "}");
            Check.reads("1 as $x|{" + key + ":1}");
            Check.reads("1 as $x|{" + key + "," + key + "}");
            Check.breaksAtMark("1 as $x|{" + key + ":^}");
            Check.breaksAtMark("1 as $x|{" + key + ":1^:2}");
        }
        Check.has("{(1):2}", "6:2 10:1 33:1");
        Check.breaksAtMark("{(1)^}");
        Check.breaksAtMark("{(1)^,a}");
        Check.breaksAtMark("{(1)^|2}");
        Check.breaksAtMark("{(1):^}");
        Check.breaksAtMark("{(^):1}");
        Check.breaksAtMark("{^[1]:2}");
        Check.breaksAtMark("{^1}");
        Check.breaksAtMark("{^..}");
    }

    /** "V: TERM {| TERM}". */
    private static void values() {
        Check.has("{a:1}", "6:1 7:1 10:1 33:1");
        Check.has("{a:1|2}", "6:2 7:1 10:1 16:1 33:1");
        Check.breaksAtMark("{a:1|^}");
        Check.breaksAtMark("{a:^|1}");
        Check.breaksAtMark("{a:1|^|2}");
        for (String operator : "+ - * / % == != < <= > >= and or // = |= += //=".split(" ")) {
            Check.breaksAtMark("{a:1 ^" + operator + " 2}");
            Check.reads("{a:(1 " + operator + " 2)}");
        }
        for (String begin : "- reduce foreach if try label def".split(" ")) {
            Check.breaksAtMark("{a:^" + begin + " 1}");
            Check.breaksAtMark("{a:1|^" + begin + " 1}");
        }
    }

    /** "PATTERN: $NAME | [ PATTERN {, PATTERN} ] | { Q {, Q} }"; "Q: $NAME [: PATTERN] | ... : PATTERN". */
    private static void patterns() {
        Check.breaksAtMark("1 as ^|1");
        Check.has("1 as $a|1", "6:2 26:1 30:1");
        Check.breaksAtMark("1 as [^]|1");
        Check.has("1 as [$a]|1", "6:2 26:1 30:1 31:1");
        Check.has("1 as [$a,$b]|1", "6:2 26:1 30:2 31:1");
        Check.breaksAtMark("1 as [$a,^]|1");
        Check.breaksAtMark("1 as [^,$a]|1");
        Check.breaksAtMark("1 as {^}|1");
        Check.has("1 as {$a}|1", "6:2 7:1 26:1 32:1 33:1");
        Check.has("1 as {$a:$b}|1", "6:2 7:1 26:1 30:1 32:1 33:1");
        Check.breaksAtMark("1 as {$a:^}|1");
        Check.breaksAtMark("1 as {$a,^}|1");
        Check.breaksAtMark("1 as {^,$a}|1");
        for (String key : new String[] {"a", "if", "\"a\"", "(1)"}) {
            Check.breaksAtMark("1 as {" + key + "^}|1");
            Check.breaksAtMark("1 as {" + key + "^,$a}|1");
            Check.breaksAtMark("1 as {" + key + ":^}|1");
            Check.reads("1 as {" + key + ":$a}|1");
        }
        Check.breaksAtMark("1 as {(^):$a}|1");
        Check.breaksAtMark("1 as $a ^$b|1");
        Check.breaksAtMark("1 as $a^");
    }

    /** "STRING without \(". */
    private static void stringsOfPatterns() {
        Check.has("1 as {\"\":$a}|1", "6:2 7:1 26:1 30:1 32:1 33:1");
        Check.has("1 as {\"(\\\\(1)\":$a}|1", "6:2 7:1 26:1 30:1 32:1 33:1");
        Check.breaksAtMark("1 as {^\"\\(1)\":$a}|1");
        Check.breaksAtMark("1 as {$b,^\"a\\(1)\":$a}|1");
        Check.breaksAtMark("1 as {^\"\\(2 3)\":$a}|1");
        Check.reads("1 as {(\"\\(1)\"):$a}|1");
    }

    /** "FUNCTIONS that are known anywhere: ... without parameters, ... with one, ... with two". */
    private static void knownAnywhere() {
        String[] known = {
            " null false true empty error not length keys type tostring tonumber sort reverse explode"
                + " implode floor abs ",
            " error has contains split join getpath sort_by group_by path ",
            " range setpath ", " "};
        for (String name : (known[0] + known[1] + known[2]).trim().split(" +")) {
            for (int given = 0; given < known.length; given++) {
                String call = name + (given == 0 ? "" : "(" + "1;".repeat(given - 1) + "1)");
                if (known[given].contains(" " + name + " ")) {
                    Check.has(call, (given == 0 ? "" : "6:" + given + " ") + "14:1");
                } else {
                    Check.breaksAt("1|" + call, 2);
                }
            }
            Check.breaksAt("1|" + name + "s", 2);
            Check.breaksAt("1|" + name.substring(1), 2);
            Check.breaksAt("1|" + name.substring(0, name.length() - 1), 2);
        }
        for (String name : "map select add first limit input debug values tojson keys_unsorted"
                .split(" ")) {
            Check.breaksAt("1|" + name, 2);
            Check.breaksAt("1|" + name + "(.)", 2);
        }
    }

    /** "with so many parameters; what is broken in their ( ) comes first". */
    private static void brokenArgumentsComeFirst() {
        Check.breaksAtMark("^foo(1)");
        Check.breaksAtMark("^foo(1;2)|3 4");
        Check.breaksAtMark("foo(1 ^2)");
        Check.breaksAtMark("foo(^)");
        Check.breaksAtMark("foo(1^");
        Check.breaksAtMark("foo(1;^");
        Check.breaksAtMark("foo(1;^bar)");
        Check.breaksAtMark("foo(^$x)");
        Check.breaksAtMark("foo(^bar(1);$x)");
        Check.breaksAtMark("^has(1;2)");
        Check.breaksAtMark("has(1;^$x)");
        Check.breaksAtMark("1 as $x|^foo($x)");
        Check.breaksAtMark("^foo[");
        Check.breaksAtMark("^foo.bar(1 2)");
    }

    /** "not known where they stand": from the def's own body on, to the end of its P. */
    private static void scopesOfFunctions() {
        Check.breaksAtMark("^f|def f:1;f");
        Check.has("def f:f;f", "12:2 28:1");
        Check.has("def f:1;f|f,[f]", "6:1 9:1 12:3 16:1 17:1 28:1");
        Check.breaksAtMark("(def f:1;f)|^f");
        Check.breaksAtMark("(def f:1;f),^f");
        Check.breaksAtMark("def f:^g;def g:1;f");
        Check.has("def g:1;def f:g;f", "6:1 12:2 28:2");
        Check.breaksAtMark("def f:def g:1;g;^g");
        Check.breaksAtMark("def f:1;^f(1)");
        Check.breaksAtMark("def f(a):1;^f");
        Check.breaksAtMark("def f(a):1;^f(1;2)");
        Check.breaksAtMark("def f(a):^f;1");
        Check.has("def f(a):f(1);f(2)", "6:2 12:2 28:1");
        // Each has as many parameters as its own def says, whatever an earlier one had.
        Check.has("(def f(a;b):1;f(1;2)),(def g:1;g)", "6:4 12:2 17:1 28:2");
        Check.breaksAtMark("(def f(a;b):1;f(1;2)),(def g:1;^g(1;2))");
        // A def may hide a FUNCTION that is known anywhere, with so many parameters alone.
        Check.has("def error:1;error,error(1)", "6:2 12:1 14:1 17:1 28:1");
        Check.has("(def not:1;not),not", "6:1 12:1 14:1 17:1 28:1");
    }

    /** "A parameter $a is known as a, too": in the body alone, without parameters. */
    private static void scopesOfParameters() {
        Check.has("def f(a):a;f(1)", "6:1 12:1 13:1 28:1");
        Check.breaksAtMark("def f(a):^$a;1");
        Check.breaksAtMark("def f(a):^a(1);1");
        Check.breaksAtMark("def f(a):a;^a");
        Check.has("def f($a):a,$a;f(1)", "6:1 11:1 12:1 13:1 17:1 28:1");
        Check.breaksAtMark("def f($a):^a(1);1");
        Check.breaksAtMark("def f($a):1;^$a");
        Check.breaksAtMark("def f($a):1;^a");
        Check.has("def f(a):def g:a;g;f(1)", "6:1 12:2 13:1 28:2");
        Check.has("def f($f):f,$f,f(1);f(2)", "6:2 11:1 12:2 13:1 17:2 28:1");
        Check.has("def f(not):not;not", "13:1 14:1 28:1");
    }

    /** "of $ ... that are not known where they stand are broken there". */
    private static void scopesOfVariables() {
        Check.breaksAtMark("^$x");
        Check.breaksAtMark("^$x as $x|1");
        Check.has("1 as $x|$x", "6:1 11:1 26:1 30:1");
        Check.has("1 as $x|2|3,[$x]", "6:3 9:1 11:1 16:1 17:1 26:1 30:1");
        Check.breaksAtMark("(1 as $x|$x),^$x");
        Check.breaksAtMark("[1 as $x|$x]|^$x");
        Check.breaksAtMark("1 as $x|^$y");
        Check.breaksAtMark("1 as $x|^$xx");
        Check.breaksAtMark("1 as $xx|^$x");
        Check.has("1 as $x|{$x}", "6:1 7:1 10:1 11:1 26:1 30:1 33:1");
        Check.breaksAtMark("{^$x}");
        Check.breaksAtMark("1 as $x|{$x,^$y}");
        Check.has("1 as $x|\"\\($x)\"", "6:1 7:2 8:1 11:1 26:1 30:1");
        Check.breaksAtMark("\"\\(1 as $x|$x)\\(^$x)\"");
        Check.has("1 as $x|$x as $x|$x", "6:1 11:2 26:2 30:2");
        Check.breaksAtMark("def f:1 as $x|$x;^$x");
    }

    /** "(The $ of a PATTERN are not known in the first P of reduce and foreach". */
    private static void scopesOfFolds() {
        for (String fold : new String[] {"reduce", "foreach"}) {
            Check.breaksAtMark(fold + " ^$x as $x(1;2)");
            Check.breaksAtMark(fold + " 1 as $x(^$x;2)");
            Check.reads(fold + " 1 as $x(1;$x)");
            Check.breaksAtMark(fold + " 1 as $x(^x;2)");
            Check.breaksAtMark(fold + " 1 as $x(1;^x)");
            Check.breaksAtMark(fold + " 1 as [$x,{y:$y}](1,^$y;2)");
            Check.reads(fold + " 1 as [$x,{y:$y}](1;$x,$y)");
            Check.breaksAtMark(fold + " 1 as {$x:$y}(^$x;2)");
            Check.breaksAtMark("(" + fold + " 1 as $x(1;2)),^$x");
            Check.breaksAtMark(fold + " 1 as $x(1;2)|^$x");
            // An outer one of the name is known there, and those of patterns inside it are.
            Check.reads("0 as $x|" + fold + " 1 as $x($x;$x)");
            Check.reads(fold + " 1 as $x(2 as $x|$x;$x)");
            Check.breaksAtMark(fold + " 1 as $x((2 as $x|$x),^$x;1)");
            Check.breaksAtMark(fold + " 1 as $x(" + fold + " 2 as $y(1;^$x);1)");
            Check.reads(fold + " 1 as {$x,($x):$y}(1;$y)");
        }
        Check.reads("foreach 1 as $x(1;2;$x)");
    }

    /** "in ( P ) of a PATTERN those before it are". */
    private static void scopesOfPatterns() {
        Check.breaksAtMark("1 as {(^$a):$a}|1");
        Check.reads("1 as {$a,($a):$b}|1");
        Check.reads("1 as {$a:{($a):$b}}|1");
        Check.reads("1 as [$a,{($a):$b}]|1");
        Check.breaksAtMark("1 as [{(^$a):$b},$a]|1");
        Check.breaksAtMark("1 as {(^$b):$a,$b}|1");
        Check.reads("1 as {(2 as $c|$c):$a}|$a");
        Check.breaksAtMark("1 as {(2 as $c|$c):$a}|^$c");
        Check.breaksAtMark("1 as {(2 as $c|$c):$a,(^$c):$b}|1");
    }

    /** "of labels that are not known where they stand are broken there". */
    private static void scopesOfLabels() {
        Check.has("label $x|break $x", "15:1 27:1");
        Check.has("label $x|1,[break $x]", "6:1 9:1 15:1 17:1 27:1");
        Check.breaksAtMark("break ^$x");
        Check.breaksAtMark("(label $x|1),break ^$x");
        Check.breaksAtMark("break ^$x|label $x|1");
        Check.breaksAtMark("label $x|break ^$y");
        Check.breaksAtMark("label $x|^$x");
        Check.breaksAtMark("1 as $x|break ^$x");
        Check.breaksAtMark("def f($x):break ^$x;1");
        Check.breaksAtMark("def f:label $x|1;break ^$x");
        Check.has("label $x|def f:break $x;f", "12:1 15:1 27:1 28:1");
        Check.has("label $x|label $y|break $x", "15:1 27:2");
        Check.breaksAtMark("label $x|break ^x");
        Check.breaksAtMark("label $x|break^");
        Check.breaksAtMark("label ^|1");
        Check.breaksAtMark("label $x^");
        Check.breaksAtMark("label $x|^");
    }
}
