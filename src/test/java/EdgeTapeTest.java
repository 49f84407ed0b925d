/** The boundaries of promises 1 to 4, 12 and 24: the tape, and how many calls an object is used for. */
public final class EdgeTapeTest {
    private static final int BAD = FlashTrust.BAD, FULL = FlashTrust.FULL;
    private static final int LEAST = Integer.MIN_VALUE, MOST = Integer.MAX_VALUE;

    public static void main(String[] args) {
        emptyAtFirst();
        feedUpTo300();
        feedHighestFirst();
        endTakes0To20();
        endWantsTwenty();
        byteOfWhatIsThere();
        spoilOfWhatIsThere();
        spoilMasks();
        digestOfTheTape();
        digestShiftsWithoutSign();
        lastOf512Calls();
        Due.close("EdgeTapeTest");
    }

    /** A tape of so many bytes, of which byte i is i + 1, its lowest 8 bits. */
    private static Device tapeOf(int size) {
        Device x = new Device(1);
        bytesOf(size).feedTo(x);
        return x;
    }

    private static Bytes bytesOf(int size) {
        Bytes bytes = new Bytes();
        for (int i = 0; i < size; i++) {
            bytes.ones(i + 1 & 255);
        }
        return bytes;
    }

    private static void emptyAtFirst() {
        Due.promise(1, "An empty tape, no DRAFT.");
        Device x = new Device(77);
        Due.is("byteOf(0)", x.byteOf(0), BAD);
        Due.is("digest()", x.digest(), 1469598103934665603L);
        Due.is("end(0)", x.end(0), BAD);
        Due.is("spoil(0, 1)", x.spoil(0, 1), BAD);
        Due.is("show()", x.show(), BAD);
        Due.is("sign(0)", x.sign(0), BAD);
        Due.is("feed", x.feed(1, 2, 3, 4, 5), 20);
    }

    private static void feedUpTo300() {
        Due.promise(2, "FULL: above 300.");
        int[] sizes = {0, 1, 19, 20, 260, 279, 280};
        for (int size : sizes) {
            Device x = tapeOf(size);
            Due.is("feed behind " + size, x.feed(1, 2, 3, 4, 5), size + 20);
            bytesOf(size).num(1, 4).num(2, 4).num(3, 4).num(4, 4).num(5, 4).isOnTape("behind " + size, x);
        }
        int[] tooMany = {281, 282, 290, 299, 300};
        for (int size : tooMany) {
            Device x = tapeOf(size);
            Due.is("feed behind " + size, x.feed(1, 2, 3, 4, 5), FULL);
            bytesOf(size).isOnTape("what was FULL changes nothing", x);
            Due.is("end(20)", x.end(20), size);
        }
    }

    private static void feedHighestFirst() {
        Due.promise(2, "Twenty bytes come behind the tape, the highest of each number first: how many it has.");
        int[] numbers = {LEAST, MOST, -1, 0, 0x80FF0001};
        Device x = new Device(1);
        Due.is("feed", x.feed(numbers[0], numbers[1], numbers[2], numbers[3], numbers[4]), 20);
        new Bytes().ones(128, 0, 0, 0, 127, 255, 255, 255, 255, 255, 255, 255, 0, 0, 0, 0, 128, 255, 0, 1)
                .isOnTape("the least and the greatest", x);
        Due.is("feed once more", x.feed(1, 2, 3, 4, 5), 40);
        Due.is("the first byte of it", x.byteOf(20), 0);
        Due.is("the last one", x.byteOf(39), 5);
    }

    private static void endTakes0To20() {
        Due.promise(3, "Of the last twenty bytes of the tape the first n (0 .. 20) stay: how many it has.");
        int[] sizes = {20, 21, 40, 300};
        for (int size : sizes) {
            for (int n = 0; n <= 20; n++) {
                Device x = tapeOf(size);
                Due.is(size + " bytes, end(" + n + ")", x.end(n), size - 20 + n);
                bytesOf(size - 20 + n).isOnTape("end(" + n + ")", x);
            }
            int[] others = {LEAST, -20, -1, 21, 22, MOST};
            for (int n : others) {
                Device x = tapeOf(size);
                Due.is(size + " bytes, end(" + n + ")", x.end(n), BAD);
                bytesOf(size).isOnTape("what was BAD changes nothing", x);
            }
        }
    }

    private static void endWantsTwenty() {
        Due.promise(3, "BAD: another n, or fewer than twenty are there.");
        int[] sizes = {0, 1, 10, 18, 19};
        for (int size : sizes) {
            Device x = tapeOf(size);
            Due.is(size + " bytes, end(0)", x.end(0), BAD);
            Due.is(size + " bytes, end(" + size + ")", x.end(size), BAD);
            Due.is(size + " bytes, end(20)", x.end(20), BAD);
            bytesOf(size).isOnTape("what was BAD changes nothing", x);
        }
        Due.is("20 bytes, end(0)", tapeOf(20).end(0), 0);
        Due.is("20 bytes, end(20)", tapeOf(20).end(20), 20);
        Due.is("21 bytes, end(0)", tapeOf(21).end(0), 1);
    }

    private static void byteOfWhatIsThere() {
        Due.promise(4, "Byte i of the tape. BAD: none such.");
        int[] sizes = {0, 1, 19, 20, 299, 300};
        for (int size : sizes) {
            Device x = tapeOf(size);
            int[] outside = {LEAST, -300, -1, size, size + 1, 300, 301, MOST};
            for (int i : outside) {
                Due.is(size + " bytes, byteOf(" + i + ")", x.byteOf(i), BAD);
            }
            if (size > 0) {
                Due.is(size + " bytes, the first", x.byteOf(0), 1);
                Due.is(size + " bytes, the last", x.byteOf(size - 1), size & 255);
            }
        }
    }

    private static void spoilOfWhatIsThere() {
        Due.promise(12, "A byte of the tape is xored: what it is. BAD: no such place");
        int[] sizes = {0, 1, 20, 300};
        for (int size : sizes) {
            Device x = tapeOf(size);
            int[] outside = {LEAST, -1, size, size + 1, MOST};
            for (int i : outside) {
                Due.is(size + " bytes, spoil(" + i + ", 1)", x.spoil(i, 1), BAD);
            }
            bytesOf(size).isOnTape("what was BAD changes nothing", x);
            if (size > 0) {
                Due.is("the last", x.spoil(size - 1, 128), size & 255 ^ 128);
                Due.is("as it is", x.byteOf(size - 1), size & 255 ^ 128);
                Due.is("the last again", x.spoil(size - 1, 128), size & 255);
                Due.is("the first", x.spoil(0, 3), 2);
            }
        }
    }

    private static void spoilMasks() {
        Due.promise(12, "BAD: no such place, mask 1 .. 255.");
        Device x = tapeOf(20);
        int[] wrong = {LEAST, -255, -1, 0, 256, 257, 511, MOST};
        for (int mask : wrong) {
            Due.is("spoil(7, " + mask + ")", x.spoil(7, mask), BAD);
        }
        bytesOf(20).isOnTape("what was BAD changes nothing", x);
        int[] masks = {1, 2, 128, 254, 255};
        for (int mask : masks) {
            Due.is("spoil(7, " + mask + ")", x.spoil(7, mask), 8 ^ mask);
            Due.is("spoil(7, " + mask + ") again", x.spoil(7, mask), 8);
        }
    }

    private static void digestOfTheTape() {
        Due.promise(24, "The DIGEST of the tape.");
        int[] sizes = {0, 1, 2, 19, 20, 299, 300};
        for (int size : sizes) {
            Due.is(size + " bytes", tapeOf(size).digest(), bytesOf(size).digest());
        }
        Device x = tapeOf(20);
        x.end(0);
        Due.is("bytes that went", x.digest(), 1469598103934665603L);
    }

    private static void digestShiftsWithoutSign() {
        Due.promise(24, "h = h xor (h shifted right by 29, without sign); all wrapping");
        int below = 0;
        int above = 0;
        for (int b = 0; b < 8; b++) {
            Device x = new Device(1);
            x.feed(0x010101 * b, 0, 0, 0, 0);
            x.end(4);
            long h = 1469598103934665603L;
            for (int i = 0; i < 4; i++) {
                h = (h ^ (i == 0 ? 0 : b)) * 1099511628211L;
                below += h < 0 ? 1 : 0;
                above += h < 0 ? 0 : 1;
                h = h ^ (h >> 29 & 0x7FFFFFFFFL);
            }
            Due.is("bytes of " + b, x.digest(), h);
        }
        Due.holds("h was below 0 at times, and at times not", below > 0 && above > 0);
    }

    private static void lastOf512Calls() {
        Due.promise(2, "An object is used for at most 512 calls after it has been made");
        FlashTrust x = new FlashTrust(5);
        for (int i = 1; i <= 510; i += 2) {
            Due.is("call " + i, x.feed(i, i, i, i, i), 20);
            Due.is("call " + (i + 1), x.end(0), 0);
        }
        Due.is("call 511", x.boot(), 1);
        Due.is("call 512", x.begin(0), 1);
    }
}
