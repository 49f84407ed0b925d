/** Promises 2 feed, 3 end, 4 byteOf, 12 spoil, 24 digest. */
public final class TapeTest {
    public static void main(String[] args) {
        feedAndByteOf();
        feedIsFull();
        end();
        spoil();
        digest();
        Due.close("TapeTest");
    }

    private static void feedAndByteOf() {
        Device x = new Device(1);
        Due.is("byteOf of an empty tape", x.byteOf(0), FlashTrust.BAD);
        Due.is("feed", x.feed(0x01020304, -1, 0x80000000, 0, 0x7F00FF10), 20);
        new Bytes().num(0x01020304, 4).num(-1, 4).num(0x80000000, 4).num(0, 4).num(0x7F00FF10, 4)
                .isOnTape("feed", x);
        Due.is("feed again", x.feed(1, 2, 3, 4, 5), 40);
        Due.is("byteOf(39)", x.byteOf(39), 5);
        Due.is("byteOf(40)", x.byteOf(40), FlashTrust.BAD);
        Due.is("byteOf(-1)", x.byteOf(-1), FlashTrust.BAD);
        Due.is("byteOf(least)", x.byteOf(Integer.MIN_VALUE), FlashTrust.BAD);
        Due.is("byteOf(most)", x.byteOf(Integer.MAX_VALUE), FlashTrust.BAD);
    }

    private static void feedIsFull() {
        Device x = new Device(1);
        for (int i = 1; i <= 15; i++) {
            Due.is("feed " + i, x.feed(i, i, i, i, i), 20 * i);
        }
        long before = x.digest();
        Due.is("feed above 300", x.feed(9, 9, 9, 9, 9), FlashTrust.FULL);
        Due.is("the tape stays", x.digest(), before);
        Due.is("byteOf(299)", x.byteOf(299), 15);
        x.end(1);
        Due.is("281 and 20 are above 300", x.feed(0, 0, 0, 0, 0), FlashTrust.FULL);
        x.end(19);
        Due.is("280 and 20 are not", x.feed(0, 0, 0, 0, 0), 300);
    }

    private static void end() {
        Device x = new Device(1);
        Due.is("end of an empty tape", x.end(0), FlashTrust.BAD);
        x.feed(1, 2, 3, 4, 5);
        x.feed(6, 7, 8, 9, 10);
        Due.is("end(-1)", x.end(-1), FlashTrust.BAD);
        Due.is("end(21)", x.end(21), FlashTrust.BAD);
        Due.is("end(20)", x.end(20), 40);
        Due.is("end(8)", x.end(8), 28);
        Due.is("byteOf(27)", x.byteOf(27), 7);
        Due.is("byteOf(28)", x.byteOf(28), FlashTrust.BAD);
        Due.is("end(0)", x.end(0), 8);
        Due.is("end with fewer than twenty", x.end(0), FlashTrust.BAD);
        Due.is("byteOf(7)", x.byteOf(7), 2);
        x.feed(11, 12, 13, 14, 15);
        Due.is("end(11)", x.end(11), 19);
        Due.is("end with nineteen", x.end(5), FlashTrust.BAD);
    }

    private static void spoil() {
        Device x = new Device(1);
        Due.is("spoil of an empty tape", x.spoil(0, 1), FlashTrust.BAD);
        x.feed(0x11223344, 0, 0, 0, 0);
        Due.is("spoil(1, 255)", x.spoil(1, 255), 0xDD);
        Due.is("byteOf(1)", x.byteOf(1), 0xDD);
        Due.is("spoil(19, 1)", x.spoil(19, 1), 1);
        Due.is("spoil(19, 1) again", x.spoil(19, 1), 0);
        Due.is("spoil(20, 1)", x.spoil(20, 1), FlashTrust.BAD);
        Due.is("spoil(-1, 1)", x.spoil(-1, 1), FlashTrust.BAD);
        Due.is("spoil(0, 0)", x.spoil(0, 0), FlashTrust.BAD);
        Due.is("spoil(0, 256)", x.spoil(0, 256), FlashTrust.BAD);
        Due.is("spoil(0, -1)", x.spoil(0, -1), FlashTrust.BAD);
        Due.is("byteOf(0)", x.byteOf(0), 0x11);
    }

    private static void digest() {
        Device x = new Device(1);
        Due.is("digest of nothing", x.digest(), 1469598103934665603L);
        x.feed(0xFF000000, 0, 0, 0, 0);
        x.end(1);
        long h = (1469598103934665603L ^ 255) * 1099511628211L;
        Due.is("digest of one byte", x.digest(), h ^ (h >>> 29));
        x.feed(1, 2, 3, 4, -5);
        new Bytes().ones(255).num(1, 4).num(2, 4).num(3, 4).num(4, 4).num(-5, 4).isOnTape("21 bytes", x);
    }
}
