/**
 * The boundaries of what single signs are (section Terms): STRINGS, NUMBERS, NAMES, FIELDS, words,
 * remarks, and the PLACE of what is broken. Each method has the sentence that it tests.
 */
public final class CharacterBoundaryTest {
    private static final String WORDS = "and as break catch def elif else end foreach if label or"
            + " reduce then try";
    private static final String BLANKS = " \t\n\r";

    public static void main(String[] args) {
        charactersOfStrings();
        charactersBehindABackslash();
        digitsOfCodes();
        codesBelow128();
        endsOfStrings();
        numbers();
        places();
        lengthAtTheEnd();
        remarks();
        firstCharactersOfNames();
        laterCharactersOfNames();
        fieldsAndVariablesWithoutBlanks();
        words();
        namesLikeWords();
        Check.finish();
    }

    /** "characters 32 .. 126 but " and \". */
    private static void charactersOfStrings() {
        for (int b = 0; b < 256; b++) {
            boolean allowed = b >= 32 && b <= 126 && b != '"' && b != '\\';
            checkString("1,\"" + (char) b, b == '"' ? 4 : 2, allowed);
            checkString("1,\"ab" + (char) b, b == '"' ? 6 : 2, allowed);
            checkString("1,\"\\(2)" + (char) b, b == '"' ? 8 : 2, allowed);
        }
        Check.breaksAt("1,\"\37\"", 2);
        Check.has("1,\" \"", "6:1 7:1 17:1");
        Check.has("1,\"~\"", "6:1 7:1 17:1");
        Check.breaksAt("1,\"\177\"", 2);
    }

    /** The program is the text and a " behind it. */
    private static void checkString(String text, int place, boolean allowed) {
        if (allowed) {
            Check.reads(text + "\"");
        } else {
            Check.breaksAt(text + "\"", place);
        }
    }

    /** "or \ and one of " \ / b f n r t, or u and four of ..."; and ( begins a program. */
    private static void charactersBehindABackslash() {
        for (int b = 0; b < 256; b++) {
            boolean allowed = "\"\\/bfnrt".indexOf(b) >= 0;
            // Behind \( the " begins a STRING of its own, which has no end.
            checkString("1,\"\\" + (char) b, b == '(' ? 5 : 2, allowed);
            checkString("1,\"\\(2)\\" + (char) b, b == '(' ? 9 : 2, allowed);
        }
    }

    /** "u and four of 0 .. 9 a .. f A .. F". */
    private static void digitsOfCodes() {
        for (int at = 0; at < 4; at++) {
            for (int b = 0; b < 256; b++) {
                StringBuilder digits = new StringBuilder("0000");
                digits.setCharAt(at, (char) b);
                int digit = b < 128 ? Character.digit(b, 16) : -1;
                boolean allowed = digit >= 0 && digit << 4 * (3 - at) < 128;
                String text = "1,\"\\u" + digits;
                // A " among the digits ends the text too early: it is none all the same.
                checkString(text, 2, allowed);
            }
        }
        Check.breaksAt("\"\\u\"", 0);
        Check.breaksAt("\"\\u007\"", 0);
        Check.has("\"\\u0070\"", "7:1");
        Check.has("\"\\u00700\"", "7:1");
        Check.has("\"\\u0070g\"", "7:1");
    }

    /** "below 128". */
    private static void codesBelow128() {
        for (int code = 0; code < 65536; code += code < 512 ? 1 : 251) {
            checkString("\"" + String.format("\\u%04x", code), 0, code < 128);
            checkString("\"" + String.format("\\u%04X", code), 0, code < 128);
        }
        Check.reads("\"\\u007f\"");
        Check.reads("\"\\u007F\"");
        Check.breaksAt("\"\\u0080\"", 0);
        Check.breaksAt("\"\\uffff\"", 0);
    }

    /** "a STRING that is none: at its first byte": at the end of the program nothing else may miss. */
    private static void endsOfStrings() {
        String whole = "\"a\\n\\u0041\\(1)b\"";
        Check.reads("  " + whole);
        for (int length = 1; length < whole.length(); length++) {
            // In the program of the string the end is the end of a program: its length.
            boolean inside = length == 12 || length == 13;
            Check.breaksAt("  " + whole.substring(0, length), inside ? 2 + length : 2);
        }
        Check.has("\"\"", "7:1");
        Check.breaksAt("\"\"\"", 2);
        Check.has(".\"\"", "0:1 2:1 7:1");
        Check.breaksAt(".\"", 1);
        Check.breaksAt("{\"", 1);
        Check.breaksAt("{\"a\":\"", 5);
        Check.breaksAt("1 as {\"", 6);
    }

    /** "a NUMBER above 2^53 - 1 ...: at its first byte". */
    private static void numbers() {
        Check.has("0", "6:1");
        Check.has("9007199254740990", "6:1");
        Check.has("9007199254740991", "6:1");
        Check.breaksAt("9007199254740992", 0);
        Check.breaksAt("9007199254740993", 0);
        Check.breaksAt("9007199254741000", 0);
        Check.breaksAt("10000000000000000", 0);
        Check.has("0000000000000000000009007199254740991", "6:1");
        Check.breaksAt("0000000000000000000009007199254740992", 0);
        Check.has("-9007199254740991", "6:1 22:1");
        Check.breaksAt("-9007199254740992", 1);
        Check.reads(".[9007199254740991]");
        Check.breaksAt(".[9007199254740992]", 2);
        // What an int or a long would take for a small one: 2^31, 2^32 are, 2^63, 2^64 + 1 are not.
        Check.has("2147483648,4294967296", "6:2 17:1");
        Check.breaksAt("9223372036854775808", 0);
        Check.breaksAt("1+18446744073709551616", 2);
        Check.breaksAt("1+18446744073709551617", 2);
        Check.breaksAt("1+184467440737095516160", 2);
        Check.breaksAt("1+" + "1" + "0".repeat(400), 2);
        Check.reads("1+" + "0".repeat(400) + "1");
        // A NUMBER too large is told before what is broken behind it, and behind what is before.
        Check.breaksAt("1 9007199254740992", 2);
        Check.breaksAt("9007199254740992 )", 0);
        Check.breaksAt(") 9007199254740992", 0);
    }

    /** "at the PLACE (from 0) of the first byte of the first of its signs that can't stand there". */
    private static void places() {
        String signs = "? : ; ) ] } | , = |= += -= *= /= %= // //= == != < <= > >= + * / % and or as"
                + " catch elif else end then";
        for (String sign : signs.split(" ")) {
            Check.breaksAt(sign, 0);
            Check.breaksAt(" \n" + sign, 2);
            Check.breaksAt("1+ " + sign, 3);
        }
        String begins = ". .. .a 2 \"a\" ( [] { $x null if reduce foreach try label def break";
        for (String sign : begins.split(" ")) {
            // What stands behind . and NAMES is part of the TERM; behind 1 these can't stand.
            if (!sign.startsWith(".") && !sign.equals("[]")) {
                Check.breaksAt("1 " + sign, 2);
            }
            Check.breaksAt("1 as " + sign + " ", sign.equals("$x") ? 8
                    : sign.equals("{") ? 7 : sign.equals("[]") ? 6 : 5);
        }
        Check.breaksAt("1 1 1", 2);
        Check.breaksAt("foo bar", 0);
    }

    /** "its length at the end". */
    private static void lengthAtTheEnd() {
        for (String end : new String[] {"", " ", "\n", " \t\r\n ", "#", "# 1", "#\n", " # \n "}) {
            Check.breaksAt(end, end.length());
            Check.breaksAt("1|" + end, 2 + end.length());
            Check.breaksAt("foo(1" + end, 5 + end.length());
            Check.reads("1" + end);
        }
        String whole = "def f ( a ; $b ) : if a then [ 1 ] else { b : $b } end ;"
                + " foreach ( . ) as [ $x , { y : $z } ] ( 1 ; error ( 2 ) )";
        Check.reads(whole);
        StringBuilder begun = new StringBuilder();
        for (String sign : whole.split(" ")) {
            Check.breaksAt(begun.toString(), begun.length());
            begun.append(sign).append(' ');
        }
    }

    /** "# up to 10 (or the end)". */
    private static void remarks() {
        for (int b = 0; b < 256; b++) {
            Check.has("1#" + (char) b + "+2", b == 10 ? "6:2 21:1" : "6:1");
            Check.has("1#x" + (char) b + "+2", b == 10 ? "6:2 21:1" : "6:1");
        }
        Check.has("#\n1", "6:1");
        Check.breaksAt("#\n", 2);
        Check.breaksAt("#\n#1\n", 5);
        Check.has("##\n#\n1##", "6:1");
        Check.breaksAt("1#\n2", 3);
        Check.has("1#\n#2", "6:1");
        Check.has("\"#\"", "7:1");
        Check.has("\"\\(1#)\n)\"", "6:1 7:2 8:1");
        Check.has(". # 1\n\"a\"", "0:1 2:1 7:1");
        Check.breaksAt("1 as $#\nx|1", 5);
        // Between signs, not in them.
        Check.breaksAt("1 = = 2", 4);
        Check.breaksAt("1 / / 2", 4);
        Check.breaksAt("1 2", 2);
        Check.has(". .a", "0:1 2:1 7:1");
        Check.breaksAt(". .", 3);
    }

    /** "NAMES: a letter or _". */
    private static void firstCharactersOfNames() {
        for (int b = 0; b < 256; b++) {
            String program = "def " + (char) b + ":1;1";
            if (isLetter(b)) {
                Check.reads(program);
                Check.reads("." + (char) b);
                Check.reads("1 as $" + (char) b + "|1");
                Check.reads("{" + (char) b + "}");
            } else {
                int skipped = BLANKS.indexOf(b) >= 0 ? 1 : b == '#' ? program.length() - 4 : 0;
                Check.breaksAt(program, 4 + skipped);
                Check.breaksAt("1 as $" + (char) b + "|1", 5);
            }
        }
    }

    /** "then letters, digits, _". */
    private static void laterCharactersOfNames() {
        for (int b = 0; b < 256; b++) {
            String program = "def q" + (char) b + ":1;q" + (char) b;
            if (isLetter(b) || b >= '0' && b <= '9') {
                Check.has(program, "6:1 12:1 28:1");
                Check.has(".q" + (char) b, "0:1 2:1 7:1");
                Check.has("1 as $q" + (char) b + "|$q" + (char) b, "6:1 11:1 26:1 30:1");
            } else if (BLANKS.indexOf(b) >= 0) {
                Check.has(program, "6:1 12:1 28:1");
            } else if (b == '#') {
                Check.breaksAt(program, program.length());
            } else {
                // The first : and a ( may stand behind the NAME, what comes then may not.
                Check.breaksAt(program, b == ':' || b == '(' ? 6 : 5);
            }
        }
        Check.breaksAt("def a:1;aa", 8);
        Check.breaksAt("def aa:1;a", 9);
        Check.breaksAt("def a:1;A", 8);
        String longName = "a".repeat(5000);
        Check.has("def " + longName + ":1;" + longName, "6:1 12:1 28:1");
        Check.breaksAt("def " + longName + ":1;" + longName + "a", 5007);
    }

    private static boolean isLetter(int b) {
        return b >= 'a' && b <= 'z' || b >= 'A' && b <= 'Z' || b == '_';
    }

    /** "FIELDS: . and a NAME, without blanks; $ and a NAME likewise". */
    private static void fieldsAndVariablesWithoutBlanks() {
        for (int i = 0; i < BLANKS.length(); i++) {
            char blank = BLANKS.charAt(i);
            Check.breaksAt("." + blank + "a", 2);
            Check.breaksAt("1." + blank + "a", 3);
            Check.breaksAt("1 as $" + blank + "a|1", 5);
            Check.breaksAt("1 as $a|$" + blank + "a", 8);
            Check.reads("." + blank + "\"a\"");
            Check.reads("1 ." + blank + "\"a\"");
            Check.reads("." + blank + "[" + blank + "]");
            Check.reads("1 as" + blank + "$a" + blank + "|" + blank + "$a" + blank + ".a");
        }
        Check.breaksAt(".#\na", 3);
        Check.has(".a", "0:1 2:1 7:1");
        Check.has("1 as $a|$a", "6:1 11:1 26:1 30:1");
        Check.breaksAt(".1", 1);
        Check.breaksAt("1 as $1|1", 5);
        Check.breaksAt("..a", 2);
        Check.breaksAt("1 as $$a|1", 5);
    }

    /** "(in both a NAME may be a word, too)": as an entry's name, too, and nowhere else. */
    private static void words() {
        for (String word : WORDS.split(" ")) {
            Check.has("." + word, "0:1 2:1 7:1");
            Check.has("1." + word, "2:1 6:1 7:1");
            Check.has("1 as $" + word + "|$" + word, "6:1 11:1 26:1 30:1");
            Check.has("label $" + word + "|break $" + word, "15:1 27:1");
            Check.has("{" + word + "}", "7:1 10:1 33:1");
            Check.has("{" + word + ":1}", "6:1 7:1 10:1 33:1");
            Check.has("1 as {" + word + ":$x}|1", "6:2 7:1 26:1 30:1 32:1 33:1");
            Check.has("1 as {$" + word + "}|1", "6:2 7:1 26:1 32:1 33:1");
            Check.has("def f($" + word + "):$" + word + ";1", "6:1 11:1 28:1");
            Check.breaksAt("def " + word + ":1;1", 4);
            Check.breaksAt("def f(" + word + "):1;1", 6);
            Check.breaksAt("-" + word, word.equals("break") ? 6 : 1);
            Check.breaksAt("1 as " + word + "|1", 5);
        }
    }

    /** "words are: ...": a NAME that is nearly one is none. */
    private static void namesLikeWords() {
        for (String word : WORDS.split(" ")) {
            for (String name : new String[] {word + "_", word + "1", "_" + word, word.toUpperCase(),
                    word.substring(0, word.length() - 1) + "q"}) {
                Check.has("def " + name + ":1;" + name, "6:1 12:1 28:1");
                Check.has("def f(" + name + "):" + name + ";1", "6:1 13:1 28:1");
                Check.breaksAt(name, 0);
            }
        }
        for (String name : "import include not a de i".split(" ")) {
            Check.has("def " + name + ":1;" + name, "6:1 12:1 28:1");
        }
    }
}
