/** What the tests share: programs given as texts, and a count of the wrong answers. */
final class Check {
    static final int KINDS = 34;
    static final int NO_KIND = 29;
    private static final int FED = 20;
    private static int wrong = 0;

    private Check() {
    }

    static void equal(String what, long got, long due) {
        if (got != due) {
            wrong++;
            System.out.println(what + ": answered " + got + ", due is " + due);
        }
    }

    static void isTrue(String what, boolean holds) {
        equal(what, holds ? 1 : 0, 1);
    }

    /**
     * Brings the characters of the text to the tape, as bytes, and nothing else. What is no whole
     * feed comes first: the tape can then be filled to its last byte.
     */
    static void tape(FilterReader reader, String text) {
        int odd = text.length() % FED;
        if (odd > 0) {
            feed(reader, text.substring(0, odd) + "x".repeat(FED - odd));
            reader.end(reader.taped() - FED + odd);
        }
        for (int from = odd; from < text.length(); from += FED) {
            feed(reader, text.substring(from, from + FED));
        }
    }

    private static void feed(FilterReader reader, String twentyBytes) {
        int[] fed = new int[5];
        for (int i = 0; i < FED; i++) {
            fed[i / 4] |= (twentyBytes.charAt(i) & 255) << (24 - 8 * (i % 4));
        }
        reader.feed(fed[0], fed[1], fed[2], fed[3], fed[4]);
    }

    /** Whether reading the text throws. */
    static boolean breaks(FilterReader reader, String text) {
        tape(reader, text);
        try {
            reader.read();
            return false;
        } catch (UnsupportedOperationException e) {
            return true;
        }
    }

    /** The program has exactly the kinds, written "0:1 2:3": kind 0 once, kind 2 three times. */
    static void has(String program, String kinds) {
        int[] due = new int[KINDS];
        int total = 0;
        for (String part : kinds.split(" ")) {
            int colon = part.indexOf(':');
            int many = Integer.parseInt(part.substring(colon + 1));
            due[Integer.parseInt(part.substring(0, colon))] = many;
            total += many;
        }
        FilterReader reader = new FilterReader();
        tape(reader, program);
        try {
            equal(program + " read()", reader.read(), total);
        } catch (UnsupportedOperationException e) {
            equal(program + " is broken at " + reader.place(), 1, 0);
        }
        equal(program + " place()", reader.place(), -1);
        for (int kind = 0; kind < KINDS; kind++) {
            if (kind != NO_KIND) {
                equal(program + " many(" + kind + ")", reader.many(kind), due[kind]);
            }
        }
    }

    /** The program is whole, and read answers how many there are of all kinds. */
    static void reads(String program) {
        FilterReader reader = new FilterReader();
        tape(reader, program);
        try {
            equal(program + " read()", reader.read(), ofAllKinds(reader));
        } catch (UnsupportedOperationException e) {
            equal(program + " is broken at " + reader.place(), 1, 0);
        }
        equal(program + " place()", reader.place(), -1);
        equal(program + " taped()", reader.taped(), 0);
    }

    private static int ofAllKinds(FilterReader reader) {
        int all = 0;
        for (int kind = 0; kind < KINDS; kind++) {
            all += kind == NO_KIND ? 0 : reader.many(kind);
        }
        return all;
    }

    /** The program is broken at the place of the ^ in it; the ^ is none of its bytes. */
    static void breaksAtMark(String marked) {
        int place = marked.indexOf('^');
        breaksAt(marked.substring(0, place) + marked.substring(place + 1), place);
    }

    static void breaksAt(String program, int place) {
        FilterReader reader = new FilterReader();
        isTrue(program + " throws", breaks(reader, program));
        equal(program + " place()", reader.place(), place);
        equal(program + " taped()", reader.taped(), 0);
        for (int kind = 0; kind < KINDS; kind++) {
            if (kind != NO_KIND) {
                equal(program + " many(" + kind + ")", reader.many(kind), 0);
            }
        }
    }

    static void finish() {
        System.out.println(wrong == 0 ? "all answers are as due" : wrong + " answers are not as due");
        if (wrong != 0) {
            System.exit(1);
        }
    }
}
