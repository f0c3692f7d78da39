/** Promises 4 and 6: where broken programs are broken. A ^ marks the place. */
public final class BrokenTest {
    public static void main(String[] args) {
        signs();
        ends();
        terms();
        strings();
        objects();
        operators();
        statements();
        patterns();
        functions();
        names();
        Check.finish();
    }

    private static void signs() {
        for (int b = 0; b < 256; b++) {
            boolean isSign = "!@&~`'\\".indexOf(b) < 0 && b >= 32 && b < 127;
            boolean isBlank = b == 9 || b == 10 || b == 13;
            if (!isSign && !isBlank) {
                Check.breaksAt("1 " + (char) b, 2);
            }
        }
        Check.breaksAtMark("^$");
        Check.breaksAtMark("1 as ^$ x|1");
        Check.breaksAtMark("1 as ^$1|1");
        Check.breaksAtMark("1 ^! = 2");
        Check.breaksAtMark("^9007199254740992");
        Check.breaksAtMark("1,^99999999999999999999999999999999999999");
        Check.breaksAtMark("1^e5");
        Check.breaksAtMark("1.^5");
        Check.breaksAtMark("1 ^2");
    }

    private static void ends() {
        Check.breaksAt("", 0);
        Check.breaksAt("  # 1", 5);
        Check.breaksAt("1 + ", 4);
        Check.breaksAt("(1 #)", 5);
        Check.breaksAt("[", 1);
        Check.breaksAt("{a:", 3);
        Check.breaksAt("def f:1;", 8);
        Check.breaksAt("if 1 then 2", 11);
        Check.breaksAt("1|", 2);
    }

    private static void terms() {
        Check.breaksAtMark(". ^a");
        Check.breaksAtMark("..^a");
        Check.breaksAtMark("..^\"a\"");
        Check.breaksAtMark(".a^\"b\"");
        Check.breaksAtMark(".a. ^b");
        Check.breaksAtMark(".[:^]");
        Check.breaksAtMark(".[1^;2]");
        Check.breaksAtMark(".[1:2^:3]");
        Check.breaksAtMark("(^)");
        Check.breaksAtMark("(1^]");
        Check.breaksAtMark("[1,^]");
        Check.breaksAtMark("1^)");
        Check.breaksAtMark("-^-1");
        Check.breaksAtMark("-^if 1 then 2 end");
        Check.breaksAtMark("-1 ^as $x|1");
        Check.breaksAtMark("^?");
        Check.breaksAtMark("^as");
        Check.breaksAtMark("length(^)");
        Check.breaksAtMark("has(1;^)");
        Check.breaksAtMark("has(1,^)");
    }

    private static void strings() {
        Check.breaksAtMark("1,^\"");
        Check.breaksAtMark("1,^\"a");
        Check.breaksAtMark("1,^\"\\q\"");
        Check.breaksAtMark("1,^\"\\");
        Check.breaksAtMark("1,^\"\n\"");
        Check.breaksAtMark("1,^\"\177\"");
        Check.breaksAtMark("1,^\"\200\"");
        Check.breaksAtMark("1,^\"\\u0080\"");
        Check.breaksAtMark("1,^\"\\u00g0\"");
        Check.breaksAtMark("1,^\"\\u007\"");
        Check.breaksAtMark("1,^\"\\u100000\"");
        Check.breaksAtMark("1,^\"\\(2)");
        Check.breaksAtMark("1,^\"\\(2)\\q\"");
        Check.breaksAtMark("1,\"\\(^)\"");
        Check.breaksAtMark("1,\"\\(2 ^3)\"");
        Check.breaksAtMark("1,\"\\(^foo)\"");
        Check.breaksAt("\"\\(2", 4);
        Check.breaksAtMark("\"a\" ^\"b\"");
    }

    private static void objects() {
        Check.breaksAtMark("{^,}");
        Check.breaksAtMark("{a,^}");
        Check.breaksAtMark("{^1:2}");
        Check.breaksAtMark("{(1)^}");
        Check.breaksAtMark("{(1)^,a}");
        Check.breaksAtMark("{a:^}");
        Check.breaksAtMark("{a:^-1}");
        Check.breaksAtMark("{a:1^+2}");
        Check.breaksAtMark("{a:1^|=2}");
        Check.breaksAtMark("{a:1 ^as $x|2}");
        Check.breaksAtMark("{a:^if 1 then 2 end}");
        Check.breaksAtMark("{a:1|^def f:1;f}");
        Check.breaksAtMark("{^.a}");
        Check.breaksAtMark("{a^.b:1}");
        Check.breaksAtMark("{^$x}");
        Check.breaksAtMark("{^$x:1}");
    }

    private static void operators() {
        Check.breaksAtMark("1==2^==3");
        Check.breaksAtMark("1<2+3^>=4");
        Check.breaksAtMark("1|2==3^!=4");
        Check.breaksAtMark("(1 as $x|2==3==4^==5)");
        Check.breaksAtMark("1 as $x|2==3==^$x");
        Check.breaksAtMark("1+^+2");
        Check.breaksAtMark("1//^/2");
        Check.breaksAtMark("1==^=2");
        Check.breaksAtMark("1|^|2");
        Check.breaksAtMark("1,^,2");
        Check.breaksAtMark("1 and ^or 2");
        Check.breaksAtMark("1+^def f:1;f");
        Check.breaksAtMark("1,^label $x|1");
    }

    private static void statements() {
        Check.breaksAtMark("if 1 ^else 2 end");
        Check.breaksAtMark("if 1 then 2 else 3 ^elif 4 then 5 end");
        Check.breaksAtMark("if 1 then 2 elif 3 ^else 4 end");
        Check.breaksAtMark("if 1 then 2 end^.a");
        Check.breaksAtMark("if 1 then 2 end ^as $x|1");
        Check.breaksAtMark("try ^-1");
        Check.breaksAtMark("try ^try 1");
        Check.breaksAtMark("try 1 catch 2 ^catch 3");
        Check.breaksAtMark("try 1 ^as $x|1");
        Check.breaksAtMark("reduce ^-1 as $x(1;2)");
        Check.breaksAtMark("reduce 1 ^(1;2)");
        Check.breaksAtMark("reduce 1 as $x ^|1");
        Check.breaksAtMark("reduce 1 as $x(1^)");
        Check.breaksAtMark("reduce 1 as $x(1;2^;3)");
        Check.breaksAtMark("reduce 1 as $x(1;2)^[0]");
        Check.breaksAtMark("foreach 1 as $x(1;2;3^;4)");
        Check.breaksAtMark("foreach 1 as $x(1^)");
        Check.breaksAtMark("label ^x|1");
        Check.breaksAtMark("label $x ^,1");
        Check.breaksAtMark("break ^x");
        Check.breaksAtMark("1 as $x^,2");
    }

    private static void patterns() {
        Check.breaksAtMark("1 as [^]|1");
        Check.breaksAtMark("1 as {^}|1");
        Check.breaksAtMark("1 as ^x|1");
        Check.breaksAtMark("1 as ^.|1");
        Check.breaksAtMark("1 as [$x,^]|1");
        Check.breaksAtMark("1 as [$x^;$y]|1");
        Check.breaksAtMark("1 as {a^}|1");
        Check.breaksAtMark("1 as {a:^1}|1");
        Check.breaksAtMark("1 as {^1:$x}|1");
        Check.breaksAtMark("1 as {(1)^}|1");
        Check.breaksAtMark("1 as {\"a\"^,$x}|1");
        Check.breaksAtMark("1 as {^\"\\(1)\":$x}|1");
        Check.breaksAtMark("1 as {^\"\\(foo)\":$x}|1");
        Check.breaksAtMark("1 as {^\"\\q\":$x}|1");
        Check.breaksAtMark("1 as {^\"a:$x}|1");
        Check.breaksAtMark("1 as $x ^? // $y|1");
    }

    private static void functions() {
        Check.breaksAtMark("def ^if:1;1");
        Check.breaksAtMark("def ^$f:1;1");
        Check.breaksAtMark("def f^;1");
        Check.breaksAtMark("def f(^):1;1");
        Check.breaksAtMark("def f(a;^):1;1");
        Check.breaksAtMark("def f(a^,b):1;1");
        Check.breaksAtMark("def f(^1):1;1");
        Check.breaksAtMark("def f(a)^1;1");
        Check.breaksAtMark("def f:1|^;1");
        Check.breaksAtMark("def f:1^)");
        Check.breaksAtMark("def f:1;^;1");
    }

    private static void names() {
        Check.breaksAtMark("1|^foo");
        Check.breaksAtMark("^foo(1)|2 3");
        Check.breaksAtMark("foo(1 ^2)");
        Check.breaksAtMark("foo(^bar(1))");
        Check.breaksAt("foo(1", 5);
        Check.breaksAtMark("^length(1)");
        Check.breaksAtMark("^has");
        Check.breaksAtMark("^has(1;2)");
        Check.breaksAtMark("^range(1)");
        Check.breaksAtMark("^range(1;2;3)");
        Check.breaksAtMark("^nul");
        Check.breaksAtMark("^nulll");
        Check.breaksAtMark("^sort_");
        Check.breaksAtMark("^Null");
        Check.breaksAtMark("def f:1;^f(1)");
        Check.breaksAtMark("def f(a):1;^f");
        Check.breaksAtMark("def f(a):1;^a");
        Check.breaksAtMark("def f(a):^a(1);1");
        Check.breaksAtMark("def f(a):^$a;1");
        Check.breaksAtMark("def f($a):1;^$a");
        Check.breaksAtMark("(def f:1;f)|^f");
        Check.breaksAtMark("def f:def g:1;g;^g");
        Check.breaksAtMark("^$x");
        Check.breaksAtMark("^$x as $x|1");
        Check.breaksAtMark("(1 as $x|$x)|^$x");
        Check.breaksAtMark("reduce 1 as $x(^$x;1)");
        Check.breaksAtMark("foreach 1 as {$x}(^$x;1)");
        Check.breaksAtMark("reduce 1 as $x(1;$x)|^$x");
        Check.breaksAtMark("1 as {(^$x):$x}|1");
        Check.breaksAtMark("1 as {$x,(2 as $y|$y):[$z,{(^$y):$w}]}|1");
        Check.breaksAtMark("break ^$x");
        Check.breaksAtMark("1 as $x|break ^$x");
        Check.breaksAtMark("label $x|^$x");
        Check.breaksAtMark("(label $x|1)|break ^$x");
        Check.breaksAtMark("label $x|break ^$xx");
    }
}
