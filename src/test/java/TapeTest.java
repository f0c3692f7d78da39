/** Promises 1, 2, 3 and 7: a new object, feed, end and taped; and the state that read leaves (4, 6). */
public final class TapeTest {
    public static void main(String[] args) {
        newObject();
        feedKeepsTheOrderOfBytes();
        feedRefusesTooMuch();
        endKeepsTheFirstBytes();
        readEmptiesTheTape();
        placeIsOfTheLatestRead();
        manyRefusesOtherKinds();
        Check.finish();
    }

    private static void newObject() {
        FilterReader reader = new FilterReader();
        Check.equal("new taped()", reader.taped(), 0);
        Check.equal("new place()", reader.place(), -1);
        for (int kind = 0; kind < Check.KINDS; kind++) {
            if (kind != Check.NO_KIND) {
                Check.equal("new many(" + kind + ")", reader.many(kind), 0);
            }
        }
    }

    private static void feedKeepsTheOrderOfBytes() {
        FilterReader reader = new FilterReader();
        // "1,2,3,4,5,6,7,8,9,10" is twenty bytes.
        Check.equal("feed", reader.feed(0x312c322c, 0x332c342c, 0x352c362c, 0x372c382c, 0x392c3130), 20);
        Check.equal("taped()", reader.taped(), 20);
        Check.equal("read()", reader.read(), 19);
        Check.equal("many(6)", reader.many(6), 10);
        // Bytes above 127 are bytes, too: 0xff is no sign.
        reader.feed(0x31ff0000, 0, 0, 0, 0);
        Check.isTrue("1 and 255 break", breaks(reader));
        Check.equal("place()", reader.place(), 1);
    }

    private static void feedRefusesTooMuch() {
        FilterReader reader = new FilterReader();
        for (int i = 1; i <= 819; i++) {
            Check.equal("feed " + i, reader.feed(0, 0, 0, 0, 0), 20L * i);
        }
        Check.isTrue("feed beyond 16384", feedThrows(reader));
        Check.equal("taped() behind it", reader.taped(), 16380);
        Check.equal("end(16365)", reader.end(16365), 16365);
        Check.isTrue("feed to 16385", feedThrows(reader));
        Check.equal("end(16364)", reader.end(16364), 16364);
        Check.equal("feed to 16384", reader.feed(0, 0, 0, 0, 0), 16384);
        Check.isTrue("feed when full", feedThrows(reader));
        Check.equal("taped() when full", reader.taped(), 16384);
    }

    private static void endKeepsTheFirstBytes() {
        FilterReader reader = new FilterReader();
        Check.equal("end(0)", reader.end(0), 0);
        Check.isTrue("end(1) of none", endThrows(reader, 1));
        Check.tape(reader, "123456");
        Check.isTrue("end(-1)", endThrows(reader, -1));
        Check.isTrue("end(7)", endThrows(reader, 7));
        Check.isTrue("end(2147483647)", endThrows(reader, Integer.MAX_VALUE));
        Check.equal("taped() behind them", reader.taped(), 6);
        Check.equal("end(6)", reader.end(6), 6);
        Check.equal("end(1)", reader.end(1), 1);
        Check.equal("taped()", reader.taped(), 1);
        Check.tape(reader, "+2");
        Check.equal("taped() of both", reader.taped(), 3);
        Check.equal("read()", reader.read(), 3);
        Check.equal("many(21)", reader.many(21), 1);
    }

    private static void readEmptiesTheTape() {
        FilterReader reader = new FilterReader();
        Check.tape(reader, ".");
        Check.equal("read()", reader.read(), 1);
        Check.equal("taped() behind read", reader.taped(), 0);
        Check.isTrue("an empty tape breaks", breaks(reader));
        Check.equal("its place()", reader.place(), 0);
        Check.tape(reader, "1 1");
        Check.isTrue("1 1 breaks", breaks(reader));
        Check.equal("taped() behind a broken one", reader.taped(), 0);
        Check.tape(reader, "..");
        Check.equal("read() of the next", reader.read(), 1);
        Check.equal("many(1)", reader.many(1), 1);
    }

    private static void placeIsOfTheLatestRead() {
        FilterReader reader = new FilterReader();
        Check.tape(reader, "1,2");
        reader.read();
        Check.tape(reader, "foo");
        reader.end(2);
        Check.equal("many(6) until the next read", reader.many(6), 2);
        Check.isTrue("fo breaks", breaks(reader));
        Check.equal("place()", reader.place(), 0);
        Check.equal("many(6) without a program", reader.many(6), 0);
        Check.tape(reader, "1,2,3");
        Check.equal("place() until the next read", reader.place(), 0);
        reader.read();
        Check.equal("place() of a whole one", reader.place(), -1);
        Check.equal("many(6)", reader.many(6), 3);
    }

    private static void manyRefusesOtherKinds() {
        FilterReader reader = new FilterReader();
        Check.tape(reader, "..");
        reader.read();
        int[] none = {-1, 29, 34, 35, Integer.MAX_VALUE, Integer.MIN_VALUE};
        for (int kind : none) {
            Check.isTrue("many(" + kind + ") throws", manyThrows(reader, kind));
        }
        Check.equal("many(1) behind them", reader.many(1), 1);
        Check.isTrue("many(29) without a program", manyThrows(new FilterReader(), 29));
    }

    private static boolean breaks(FilterReader reader) {
        return Check.breaks(reader, "");
    }

    private static boolean feedThrows(FilterReader reader) {
        try {
            reader.feed(0, 0, 0, 0, 0);
            return false;
        } catch (IndexOutOfBoundsException e) {
            return true;
        }
    }

    private static boolean endThrows(FilterReader reader, int n) {
        try {
            reader.end(n);
            return false;
        } catch (IllegalArgumentException e) {
            return true;
        }
    }

    private static boolean manyThrows(FilterReader reader, int kind) {
        try {
            reader.many(kind);
            return false;
        } catch (IllegalArgumentException e) {
            return true;
        }
    }
}
