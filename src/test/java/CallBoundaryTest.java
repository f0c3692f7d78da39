/**
 * The boundaries of the calls (promises 1 to 7): what is refused and changes nothing, the full and
 * the empty tape, and the 512th call. Each method has the sentence that it tests.
 */
public final class CallBoundaryTest {
    private static final int FULL = 16384;

    public static void main(String[] args) {
        noProgram();
        highestByteFirst();
        lastFeedOfTheTape();
        feedsOfOtherLengths();
        refusedFeedChangesNothing();
        endsOfTheTape();
        endsOfTheEmptyTape();
        refusedEndChangesNothing();
        whatEndCutIsGone();
        namesOfEarlierPrograms();
        emptyTapeIsRead();
        tapeIsEmptyThen();
        noProgramBehindABrokenOne();
        answerOfAllKinds();
        kinds();
        refusedKindChangesNothing();
        placeOfTheLatestRead();
        fullTapeIsRead();
        the512thCall();
        objectsOnTheirOwn();
        Check.finish();
    }

    /** Promise 1: "No PROGRAM." */
    private static void noProgram() {
        FilterReader reader = new FilterReader();
        checkState("new", reader, 0, -1, 0);
        for (int kind = 0; kind < Check.KINDS; kind++) {
            if (kind != Check.NO_KIND) {
                Check.equal("new many(" + kind + ")", reader.many(kind), 0);
            }
        }
    }

    /** Promise 2: "The 20 bytes of five ints, the highest of each first, come to the TAPE". */
    private static void highestByteFirst() {
        for (int at = 0; at < 20; at++) {
            // A . and 19 blanks, then a byte 255, which is no sign, at each place.
            int[] fed = {0x20202020, 0x20202020, 0x20202020, 0x20202020, 0x20202020};
            fed[at / 4] ^= 0x0e << 24 - 8 * (at % 4);
            FilterReader reader = new FilterReader();
            Check.equal("feed of . at " + at, reader.feed(fed[0], fed[1], fed[2], fed[3], fed[4]), 20);
            Check.equal("read of . at " + at, reader.read(), 1);
            fed[at / 4] |= 0xff << 24 - 8 * (at % 4);
            reader.feed(fed[0], fed[1], fed[2], fed[3], fed[4]);
            Check.isTrue("read of 255 at " + at, readThrows(reader));
            Check.equal("place() of 255 at " + at, reader.place(), at);
        }
    }

    /** Promise 2: "it would have more than 16384: IndexOutOfBoundsException. Answers its length." */
    private static void lastFeedOfTheTape() {
        FilterReader reader = new FilterReader();
        for (int fed = 20; fed <= 16380; fed += 20) {
            Check.equal("feed to " + fed, feedBlanks(reader), fed);
            Check.equal("taped() of " + fed, reader.taped(), fed);
        }
        Check.isTrue("feed to 16400", feedThrows(reader));
        Check.equal("taped() behind it", reader.taped(), 16380);
        Check.equal("end(16364)", reader.end(16364), 16364);
        Check.equal("feed to 16384", feedBlanks(reader), FULL);
        Check.isTrue("feed of a full tape", feedThrows(reader));
        Check.equal("taped() when full", reader.taped(), FULL);
        Check.equal("end(16384)", reader.end(FULL), FULL);
        Check.equal("end(16365)", reader.end(16365), 16365);
        Check.isTrue("feed to 16385", feedThrows(reader));
        Check.equal("taped() behind it", reader.taped(), 16365);
    }

    /** The same: a length need not be one of whole feeds. */
    private static void feedsOfOtherLengths() {
        for (int kept = 0; kept <= 20; kept++) {
            FilterReader reader = new FilterReader();
            feedBlanks(reader);
            reader.end(kept);
            Check.equal("feed behind " + kept, feedBlanks(reader), kept + 20);
        }
    }

    /** "A call that throws changes nothing": feed. */
    private static void refusedFeedChangesNothing() {
        FilterReader reader = new FilterReader();
        Check.tape(reader, "1,2 3");
        Check.isTrue("read of 1,2 3", readThrows(reader));
        Check.tape(reader, "1,2" + " ".repeat(16362));
        Check.isTrue("feed to 16385", feedThrows(reader));
        checkState("behind a refused feed", reader, 16365, 4, 0);
        Check.equal("read", reader.read(), 3);
        Check.tape(reader, "1 2" + " ".repeat(16362));
        Check.isTrue("feed to 16385 again", feedThrows(reader));
        checkState("behind a refused feed", reader, 16365, -1, 2);
    }

    /** Promise 3: "The TAPE keeps its first n bytes, n 0 .. its length. Answers n." */
    private static void endsOfTheTape() {
        int[] lengths = {1, 19, 20, 21, 40};
        for (int length : lengths) {
            FilterReader reader = new FilterReader();
            Check.tape(reader, ".".repeat(length));
            Check.isTrue("end(-1) of " + length, endThrows(reader, -1));
            Check.isTrue("end of one more than " + length, endThrows(reader, length + 1));
            Check.isTrue("end(MIN) of " + length, endThrows(reader, Integer.MIN_VALUE));
            Check.isTrue("end(MAX) of " + length, endThrows(reader, Integer.MAX_VALUE));
            Check.equal("end of all", reader.end(length), length);
            Check.equal("taped()", reader.taped(), length);
            Check.equal("end of one less", reader.end(length - 1), length - 1);
            Check.equal("taped()", reader.taped(), length - 1);
            Check.isTrue("end of what it had", endThrows(reader, length));
            Check.equal("end(0)", reader.end(0), 0);
            Check.equal("taped()", reader.taped(), 0);
        }
    }

    /** The same: 0 is the only one then. */
    private static void endsOfTheEmptyTape() {
        FilterReader reader = new FilterReader();
        Check.equal("end(0) of a new one", reader.end(0), 0);
        Check.isTrue("end(1) of a new one", endThrows(reader, 1));
        Check.isTrue("end(-1) of a new one", endThrows(reader, -1));
        Check.tape(reader, "1,2");
        reader.read();
        Check.isTrue("end(1) behind read", endThrows(reader, 1));
        Check.equal("end(0) behind read", reader.end(0), 0);
        checkState("behind them", reader, 0, -1, 2);
    }

    /** "A call that throws changes nothing": end. */
    private static void refusedEndChangesNothing() {
        FilterReader reader = new FilterReader();
        Check.tape(reader, "1,2");
        reader.read();
        Check.tape(reader, "1,2,3");
        Check.isTrue("end(6)", endThrows(reader, 6));
        Check.isTrue("end(-1)", endThrows(reader, -1));
        checkState("behind refused ends", reader, 5, -1, 2);
        Check.equal("read", reader.read(), 5);
        Check.equal("many(6)", reader.many(6), 3);
        Check.tape(reader, "1 2");
        Check.isTrue("read of 1 2", readThrows(reader));
        Check.isTrue("end(1)", endThrows(reader, 1));
        checkState("behind a refused end", reader, 0, 2, 0);
    }

    /** "keeps its first n bytes": the others do not come back. */
    private static void whatEndCutIsGone() {
        FilterReader reader = new FilterReader();
        Check.tape(reader, "1,2,3");
        reader.end(1);
        Check.equal("read of 1", reader.read(), 1);
        Check.tape(reader, "1,2,3");
        reader.end(2);
        Check.isTrue("read of 1,", readThrows(reader));
        Check.equal("its place()", reader.place(), 2);
        Check.tape(reader, "abcdef");
        reader.end(0);
        Check.isTrue("read of nothing", readThrows(reader));
        Check.equal("its place()", reader.place(), 0);
        // A sign that the end cuts is what is left of it.
        checkCut(reader, "nulls", 4, -1);
        checkCut(reader, "nulls", 3, 0);
        checkCut(reader, "12 3", 2, -1);
        checkCut(reader, ".a b", 2, -1);
        checkCut(reader, "..", 1, -1);
        checkCut(reader, ". .", 1, -1);
        checkCut(reader, "1//", 2, 2);
        checkCut(reader, "1==2", 2, 2);
        checkCut(reader, "1==2", 3, 3);
        checkCut(reader, "\"a\"\"", 3, -1);
        checkCut(reader, "\"a\"", 2, 0);
        checkCut(reader, "9007199254740992", 15, -1);
        checkCut(reader, "1 as $a|$ab", 10, -1);
        checkCut(reader, "1 as $a|$a", 9, 8);
    }

    private static void checkCut(FilterReader reader, String text, int kept, int place) {
        Check.tape(reader, text);
        reader.end(kept);
        Check.equal(kept + " bytes of " + text + " throw", readThrows(reader) ? 1 : 0, place < 0 ? 0 : 1);
        Check.equal(kept + " bytes of " + text + ": place()", reader.place(), place);
    }

    /** "is the PROGRAM": what an earlier one made known is not known in it. */
    private static void namesOfEarlierPrograms() {
        String[] before = {"1 as $x|)", "1 as $x|1", "def f:1;)", "def f:1;1", "label $x|)", "label $x|1"};
        String[] behind = {"1 | [$x]", "1 | [$x]", "1, [f]", "1, [f]", "break $x", "break $x"};
        int[] places = {5, 5, 4, 4, 6, 6};
        FilterReader reader = new FilterReader();
        for (int i = 0; i < before.length; i++) {
            Check.tape(reader, before[i]);
            Check.equal(before[i] + " throws", readThrows(reader) ? 1 : 0, 1 - i % 2);
            Check.tape(reader, behind[i]);
            Check.isTrue(behind[i] + " throws", readThrows(reader));
            Check.equal(behind[i] + ": place()", reader.place(), places[i]);
        }
    }

    /** "its length at the end": of no bytes it is 0. */
    private static void emptyTapeIsRead() {
        FilterReader reader = new FilterReader();
        Check.isTrue("read of a new one", readThrows(reader));
        checkState("behind it", reader, 0, 0, 0);
        Check.tape(reader, "1,2");
        reader.read();
        checkState("behind 1,2", reader, 0, -1, 2);
        Check.isTrue("a second read", readThrows(reader));
        checkState("behind it", reader, 0, 0, 0);
    }

    /** Promise 4: "The TAPE, which is empty then (also if this throws), is the PROGRAM." */
    private static void tapeIsEmptyThen() {
        FilterReader reader = new FilterReader();
        Check.tape(reader, "1,2");
        Check.equal("read of 1,2", reader.read(), 3);
        Check.equal("taped() behind it", reader.taped(), 0);
        Check.tape(reader, ",");
        Check.isTrue("read of , alone", readThrows(reader));
        Check.equal("taped() behind it", reader.taped(), 0);
        Check.equal("its place()", reader.place(), 0);
        Check.equal("the next feed", feedBlanks(reader), 20);
    }

    /** Promise 4: "PLACE is told, and there is no PROGRAM."; promise 5: "0 without one". */
    private static void noProgramBehindABrokenOne() {
        String all = "def f(a):a,f(1);1 as [$x,{$y}]|label $z|[{a:.b[1:]?,\"c\\(..)\":(-1)}|.[]//$x=not,"
                + "break $z,reduce 1 as $q(1;2),(foreach 1 as $q(1;2)),if 1 and 2 then 3+4 end]";
        FilterReader reader = new FilterReader();
        Check.tape(reader, all);
        reader.read();
        for (int kind = 0; kind < Check.KINDS; kind++) {
            if (kind != Check.NO_KIND) {
                Check.isTrue("many(" + kind + ") is some", reader.many(kind) > 0);
            }
        }
        Check.tape(reader, all + ")");
        Check.isTrue("it is broken", readThrows(reader));
        Check.equal("its place()", reader.place(), all.length());
        for (int kind = 0; kind < Check.KINDS; kind++) {
            if (kind != Check.NO_KIND) {
                Check.equal("many(" + kind + ") behind it", reader.many(kind), 0);
            }
        }
    }

    /** Promise 4: "Answers how many there are of all KINDS." */
    private static void answerOfAllKinds() {
        FilterReader reader = new FilterReader();
        String[] programs = {".", "..", "()", "1,2", "{a:1}", "1+", "[.[]|.*2]", ".a[1]"};
        for (String program : programs) {
            Check.tape(reader, program);
            int answer = 0;
            try {
                answer = reader.read();
            } catch (UnsupportedOperationException e) {
                Check.isTrue(program + " is told", reader.place() >= 0);
            }
            int all = 0;
            for (int kind = 0; kind < Check.KINDS; kind++) {
                all += kind == Check.NO_KIND ? 0 : reader.many(kind);
            }
            Check.equal("read() of " + program, answer, all);
        }
    }

    /** Promise 5: "KIND 0 .. 28, 30 .. 33". */
    private static void kinds() {
        FilterReader reader = new FilterReader();
        for (int round = 0; round < 2; round++) {
            for (int kind = -40; kind <= 80; kind++) {
                boolean isKind = kind >= 0 && kind <= 28 || kind >= 30 && kind <= 33;
                Check.equal("many(" + kind + ") throws", manyThrows(reader, kind) ? 1 : 0, isKind ? 0 : 1);
            }
            Check.isTrue("many(MIN) throws", manyThrows(reader, Integer.MIN_VALUE));
            Check.isTrue("many(MAX) throws", manyThrows(reader, Integer.MAX_VALUE));
            Check.isTrue("many(2^16) throws", manyThrows(reader, 65536));
            Check.isTrue("many(256) throws", manyThrows(reader, 256));
            reader = new FilterReader();
            Check.tape(reader, "1,2");
            reader.read();
        }
    }

    /** "A call that throws changes nothing": many. */
    private static void refusedKindChangesNothing() {
        FilterReader reader = new FilterReader();
        Check.tape(reader, "1,2");
        reader.read();
        Check.tape(reader, "..");
        Check.isTrue("many(29)", manyThrows(reader, 29));
        Check.isTrue("many(-1)", manyThrows(reader, -1));
        Check.isTrue("many(34)", manyThrows(reader, 34));
        checkState("behind refused kinds", reader, 2, -1, 2);
        Check.equal("read of ..", reader.read(), 1);
    }

    /** Promise 6: "PLACE of the latest read, -1 if it told none, or before." */
    private static void placeOfTheLatestRead() {
        FilterReader reader = new FilterReader();
        Check.equal("place() before", reader.place(), -1);
        Check.tape(reader, "1 2");
        Check.equal("place() before the first read", reader.place(), -1);
        Check.isTrue("read of 1 2", readThrows(reader));
        Check.equal("place() of it", reader.place(), 2);
        Check.tape(reader, "1");
        Check.equal("place() until the next read", reader.place(), 2);
        reader.read();
        Check.equal("place() of a whole one", reader.place(), -1);
        Check.isTrue("read of nothing", readThrows(reader));
        Check.equal("place() of it", reader.place(), 0);
        Check.tape(reader, "1+");
        Check.isTrue("read of 1+", readThrows(reader));
        Check.equal("place() of it", reader.place(), 2);
    }

    /** "THE TAPE has at most 16384 bytes": each sort of sign may be the last that fits. */
    private static void fullTapeIsRead() {
        String[] whole = {"1", "null", "\"a\"", ".a", "..", "[]", "def f:1;f", "1 as $a|$a", "#", " ",
            "\"\\(1)\"", "has(1)", "{a}", "1?"};
        for (String last : whole) {
            int before = FULL - last.length();
            String program = "#".equals(last) || " ".equals(last)
                    ? "1" + " ".repeat(before - 1) + last : " ".repeat(before) + last;
            Check.reads(program);
        }
        String[] broken = {"1 2^", "nul^", "\"a^", "\"^", "1.^", "1 ..^", "[^", "1 as $a|$^", "1/^",
            "\"\\^", "\"\\(^", "\"\\u^", "\"\\u00^", "1 as $^"};
        int[] at = {2, 0, 0, 0, 2, 2, 1, 8, 2, 0, 3, 0, 0, 5};
        for (int i = 0; i < broken.length; i++) {
            String last = broken[i].substring(0, broken[i].length() - 1);
            int before = FULL - last.length();
            Check.breaksAt(" ".repeat(before) + last, before + at[i]);
        }
        Check.breaksAt(" ".repeat(FULL), FULL);
        Check.breaksAt("#".repeat(FULL), FULL);
        Check.breaksAt("(".repeat(FULL), 60);
        Check.breaksAt("\"".repeat(FULL), 2);
        Check.breaksAt("a".repeat(FULL), 0);
        Check.breaksAt("9".repeat(FULL), 0);
        Check.reads("0".repeat(FULL));
        Check.reads("." + "?".repeat(FULL - 1));
        Check.reads("\"" + "a".repeat(FULL - 2) + "\"");
        Check.reads("." + "a".repeat(FULL - 1));
    }

    /** "An object is used for at most 512 calls after it has been made". */
    private static void the512thCall() {
        FilterReader reader = new FilterReader();
        int calls = 0;
        for (; calls < 509; calls++) {
            Check.equal("feed " + calls, reader.feed(0x312b312b, 0x312b312b, 0x312b312b, 0x312b312b,
                    0x312b312b), 20 * (calls + 1));
        }
        Check.equal("call 510", reader.end(509 * 20 - 1), 10179);
        Check.equal("call 511", reader.read(), 5090 + 5089);
        Check.equal("call 512", reader.many(21), 5089);
        FilterReader other = new FilterReader();
        for (int i = 0; i < 128; i++) {
            boolean whole = i % 2 == 0;
            other.feed(0x312b312b, 0x312b312b, 0x312b312b, 0x312b312b, 0x312b312b);
            other.end(whole ? 19 : 20);
            Check.equal("read " + i + " throws", readThrows(other) ? 1 : 0, whole ? 0 : 1);
            Check.equal("place() " + i, other.place(), whole ? -1 : 20);
        }
    }

    /** No answer depends on what another object was told. */
    private static void objectsOnTheirOwn() {
        FilterReader one = new FilterReader();
        FilterReader other = new FilterReader();
        Check.tape(one, "1,2");
        Check.equal("taped() of the other", other.taped(), 0);
        Check.tape(other, "1 2");
        Check.isTrue("read of the other", readThrows(other));
        Check.equal("place() of the one", one.place(), -1);
        Check.equal("read of the one", one.read(), 3);
        checkState("the one", one, 0, -1, 2);
        checkState("the other", other, 0, 2, 0);
    }

    private static void checkState(String what, FilterReader reader, int taped, int place, int numbers) {
        Check.equal(what + ": taped()", reader.taped(), taped);
        Check.equal(what + ": place()", reader.place(), place);
        Check.equal(what + ": many(6)", reader.many(6), numbers);
    }

    private static int feedBlanks(FilterReader reader) {
        return reader.feed(0x20202020, 0x20202020, 0x20202020, 0x20202020, 0x20202020);
    }

    private static boolean feedThrows(FilterReader reader) {
        try {
            feedBlanks(reader);
            return false;
        } catch (IndexOutOfBoundsException e) {
            return true;
        }
    }

    private static boolean endThrows(FilterReader reader, int n) {
        try {
            reader.end(n);
            return false;
        } catch (IllegalArgumentException e) {
            return true;
        }
    }

    private static boolean manyThrows(FilterReader reader, int kind) {
        try {
            reader.many(kind);
            return false;
        } catch (IllegalArgumentException e) {
            return true;
        }
    }

    private static boolean readThrows(FilterReader reader) {
        try {
            reader.read();
            return false;
        } catch (UnsupportedOperationException e) {
            return true;
        }
    }
}
