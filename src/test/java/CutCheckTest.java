/**
 * Promises 19, 21 and 22: which STATE and which record count, when power cuts an erasing in such a way that the CHECK
 * of what it leaves fits. Such masks are rare: they were looked for among some 2^32 VERSIONS, ENDS, LENGTHS, seeds
 * and masks, and stand here as found.
 */
public final class CutCheckTest {
    private static final int DOWN = FlashTrust.DOWN, NONE = FlashTrust.NONE, STATE = FlashTrust.STATE;

    public static void main(String[] args) {
        bytesAheadOfTheCheckAreFree();
        otherVersionRuns();
        nothingHasAnyVersion();
        slotOfTwo();
        slotFarAboveOne();
        lengthOf1025();
        stagedLengthOf1025();
        stagedLengthFarAbove1024();
        stagedOfFour();
        stagedAboveTried();
        nothingHasNoLength();
        stagedVersionOfZero();
        stagedVersionOfOne();
        likeNumbers();
        timeOfAGreaterNumber();
        rootOfAnotherRole();
        Due.close("CutCheckTest");
    }

    /** STATES 1 to 4 are in sector 8, NOTHING and LOADING by turns; it is erased for STATE 9, and that is cut. */
    private static Line cutInSector8(int n, int version, int length, int seed, int mask) {
        Line line = new Line(n);
        line.x.image(version, length, seed);
        loadWrongly(line, 1, 3);
        cutWrongLoading(line, 1, mask);
        return line;
    }

    /** STATES 5 to 8 are in sector 9, NOTHING and LOADING by turns, behind an image being CONFIRMED in slot 1. */
    private static Line cutInSector9(int version, int length, int seed, int mask) {
        Line line = new Line(40);
        Due.is("READY", line.load(version, length, seed), 0);
        Due.is("boot", line.x.boot(), version);
        Due.is("test", line.x.test(true), version);
        line.x.image(version + 1, 20, 9);
        loadWrongly(line, version + 1, 3);
        cutWrongLoading(line, version + 1, mask);
        return line;
    }

    /** Up to the last PIECE, which is on the tape, but spoiled. Each of these images has 1 to 32 bytes there. */
    private static void toWrongPiece(Line line, int documents) {
        Device x = line.x;
        Due.is("LOADING", line.toPieces(documents), 5);
        for (int k = 0; k < x.told(8) / 64; k++) {
            x.piece(x.awaits(1), k);
            Due.is("PIECE " + k, x.answer(), 5);
        }
        x.piece(x.awaits(1), x.awaits(2));
        x.spoil(0, 1);
    }

    private static void loadWrongly(Line line, int documents, int times) {
        for (int i = 0; i < times; i++) {
            toWrongPiece(line, documents);
            Due.is("a wrong program", line.x.answer(), -18);
        }
    }

    /** Power fails behind the page of the PIECE, in the erasing that the STATE NOTHING wants. */
    private static void cutWrongLoading(Line line, int documents, int mask) {
        toWrongPiece(line, documents);
        line.x.power(1, mask);
        Due.is("cut", line.x.answer(), DOWN);
    }

    /** So that the rule in hand, and not the CHECK, decides whether it counts. */
    private static void checkFits(Device x, int sector, int from, int length) {
        Bytes bytes = new Bytes();
        for (int i = 0; i < length; i++) {
            bytes.ones(x.flash(sector, from + i));
        }
        bytes.check().isOnFlash("the CHECK fits", x, sector, from);
    }

    private static int pair(Device x, int sector, int i) {
        return x.flash(sector, i) * 256 + x.flash(sector, i + 1);
    }

    /**
     * The STATE that is left has a number above 8 and is within all brackets, but for what is told: its slot, what is
     * STAGED, and the LENGTH of that (-1: not looked at). So this alone decides.
     */
    private static void isOtherwiseJustSo(Device x, int sector, int from, String what, int slot, int staged, int length) {
        checkFits(x, sector, from, 28);
        long number = pair(x, sector, from) * 65536L + pair(x, sector, from + 2);
        Due.holds(what + ", its number", number > 12 && number < 1L << 31);
        Due.is(what + ", the slot", x.flash(sector, from + 4), slot);
        Due.holds(what + ", the VERSION", pair(x, sector, from + 5) > 0);
        Due.holds(what + ", the LENGTH", isLength(pair(x, sector, from + 7)));
        int kind = x.flash(sector, from + 15);
        Due.holds(what + ", STAGED", staged < 0 ? kind > 0 && kind <= 3 : kind == staged);
        Due.holds(what + ", its VERSION", pair(x, sector, from + 16) > 0);
        int stagedLength = pair(x, sector, from + 18);
        Due.holds(what + ", its LENGTH", length < 0 ? isLength(stagedLength) : stagedLength == length);
    }

    private static boolean isLength(int length) {
        return length >= 1 && length <= 1024;
    }

    private static void bytesAheadOfTheCheckAreFree() {
        Due.promise(19, "NONE: the CONFIRMED slot's bytes have not its DIGEST (it RUNS nothing).");
        Line line = cutInSector8(0, 590, 20, 90, -50528513);
        Device x = line.x;
        checkFits(x, 8, 32, 28);
        Due.holds("the two bytes are not 0", pair(x, 8, 32 + 26) > 0);
        line.isTold("it counts", 1, 0, 0, 0, 259, 769, 3, 591, 791, 66307);
        Due.is("its program is not there", x.boot(), NONE);
        line.isTold("NOTHING is written", 0, 0, 0, 0, 259, 769, 0, 0, 0, 66308);
        Due.is("in the other sector", pair(x, 9, 2), 66308 & 65535);
        new Bytes().padTo(96).isOnFlash("which was erased", x, 9, 32);
        Due.is("the two bytes are 0 again", pair(x, 9, 26), 0);
        Due.is("nothing RUNS", x.begin(0), STATE);
        Due.is("nor is there a test", x.test(true), STATE);
        Due.is("boot again", x.boot(), NONE);
        Due.is("nothing is written", x.told(9), 66308);
    }

    /** Its LENGTH and DIGEST stayed as they were, so the factory's program RUNS by another VERSION. */
    private static void otherVersionRuns() {
        Due.promise(19, "Then, and else, the CONFIRMED program RUNS.");
        Line line = cutInSector8(620, 60728, 2, 137, -231425);
        Device x = line.x;
        checkFits(x, 8, 32, 28);
        line.isTold("it counts", 1, 0, 0, 0, 34819, 620, 1, 60856, 770, 8913666);
        Due.is("boot", x.boot(), 34819);
        line.isTold("it RUNS", 0, 34819, 0, 0, 34819, 620, 1, 60856, 770, 8913666);
        Due.is("the image is another than the one in LOADING", line.toPieces(1), 5);
        line.isTold("LOADING", 0, 34819, 0, 0, 34819, 620, 1, 60728, 2, 8913667);
        Due.is("done", line.sendPieces(), 0);
        Due.is("on trial", x.boot(), 60728);
    }

    private static void nothingHasAnyVersion() {
        Due.promise(21, "VERSIONS of 1 on (of NOTHING any)");
        Line line = cutInSector9(21417, 1, 0, -5889);
        checkFits(line.x, 9, 0, 28);
        line.isTold("it counts", 1, 0, 0, 1, 22441, 1, 0, 23, 0, 1507333);
        Due.is("its program is not there", line.x.boot(), NONE);
        line.isTold("nothing is written", 0, 0, 0, 1, 22441, 1, 0, 23, 0, 1507333);
    }

    private static void slotOfTwo() {
        Due.promise(21, "a slot 0 or 1");
        Line line = cutInSector8(41, 23909, 12, 180, -3);
        isOtherwiseJustSo(line.x, 8, 32, "but for its slot", 2, -1, -1);
        line.isTold("it does not count", 1, 0, 0, 0, 1, 41, 1, 23909, 12, 8);
        Due.is("boot", line.x.boot(), 1);
    }

    private static void slotFarAboveOne() {
        Due.promise(21, "a slot 0 or 1");
        Line line = cutInSector8(40, 14434, 1, 39, -36);
        checkFits(line.x, 8, 96, 28);
        Due.is("the slot", line.x.flash(8, 96 + 4), 35);
        staysLoading(line, 40, 14434);
    }

    private static void lengthOf1025() {
        Due.promise(21, "LENGTHS of 1 .. 1,024, of NOTHING 0");
        Line line = cutInSector8(1024, 32375, 1, 6, -240898);
        checkFits(line.x, 8, 96, 28);
        Due.is("the LENGTH", pair(line.x, 8, 96 + 7), 1025);
        staysLoading(line, 1024, 32375);
    }

    /** STATE 2 is LOADING an image of 1,024 bytes, those behind it another one; the erasing for STATE 9 is cut. */
    private static void stagedLengthOf1025() {
        Due.promise(21, "LENGTHS of 1 .. 1,024, of NOTHING 0");
        Line line = new Line(40);
        Device x = line.x;
        x.image(46531, 1024, 38);
        Due.is("STATE 2", line.toPieces(1), 5);
        line.isTold("LENGTH 1,024 counts", 0, 1, 0, 0, 1, 40, 1, 46531, 1024, 2);
        x.stop();
        x.clear();
        x.image(2, 20, 9);
        loadWrongly(line, 2, 3);
        // The slot takes eight erasings.
        x.power(8, -16780545);
        Due.is("cut", line.toPieces(2), DOWN);
        isOtherwiseJustSo(x, 8, 32, "but for the LENGTH of what is STAGED", 0, 1, 1025);
        line.isTold("it does not count", 1, 0, 0, 0, 1, 40, 0, 0, 0, 8);
        Due.is("boot", x.boot(), 1);
    }

    private static void stagedLengthFarAbove1024() {
        Due.promise(21, "LENGTHS of 1 .. 1,024, of NOTHING 0");
        Line line = cutInSector8(40, 60321, 1, 37, -14548993);
        checkFits(line.x, 8, 96, 28);
        Due.is("LENGTH of what is STAGED", pair(line.x, 8, 96 + 18), 0xDE01);
        staysLoading(line, 40, 60321);
    }

    private static void stagedOfFour() {
        Due.promise(21, "STAGED 0 .. 3");
        Line line = cutInSector9(58362, 1024, 41, -67111937);
        isOtherwiseJustSo(line.x, 9, 0, "but for what is STAGED", 1, 4, -1);
        line.isTold("it does not count", 1, 0, 0, 1, 58362, 1024, 1, 58363, 20, 12);
        Due.is("boot", line.x.boot(), 58362);
    }

    private static void stagedAboveTried() {
        Due.promise(21, "STAGED 0 .. 3");
        Line line = cutInSector8(1024, 10772, 1, 0, -67145473);
        checkFits(line.x, 8, 96, 28);
        Due.is("STAGED", line.x.flash(8, 96 + 15), 5);
        staysLoading(line, 1024, 10772);
    }

    private static void staysLoading(Line line, int length, int version) {
        Due.holds("its number is greater", pair(line.x, 8, 96) * 65536L + pair(line.x, 8, 98) > 8);
        line.isTold("it does not count", 1, 0, 0, 0, 1, length, 1, version, 1, 8);
        Due.is("boot", line.x.boot(), 1);
        line.isTold("nothing is written", 0, 1, 0, 0, 1, length, 1, version, 1, 8);
    }

    private static void nothingHasNoLength() {
        Due.promise(21, "LENGTHS of 1 .. 1,024, of NOTHING 0");
        Line line = cutInSector9(22967, 1, 66, -226049);
        checkFits(line.x, 9, 64, 28);
        Due.is("STAGED", line.x.flash(9, 64 + 15), 0);
        Due.is("LENGTH of NOTHING", pair(line.x, 9, 64 + 18), 768);
        line.isTold("it does not count", 1, 0, 0, 1, 22967, 1, 1, 22968, 20, 12);
        Due.is("boot", line.x.boot(), 22967);
    }

    private static void stagedVersionOfZero() {
        Due.promise(21, "VERSIONS of 1 on (of NOTHING any)");
        Line line = cutInSector9(40403, 1, 2, -50528257);
        checkFits(line.x, 9, 0, 28);
        Due.is("STAGED", line.x.flash(9, 15), 3);
        Due.is("its VERSION", pair(line.x, 9, 16), 0);
        line.isTold("it does not count", 1, 0, 0, 1, 40403, 1, 1, 40404, 20, 12);
        Due.is("boot", line.x.boot(), 40403);
    }

    /** What is left of a NOTHING: LOADING, and READY, of VERSION 1. */
    private static void stagedVersionOfOne() {
        Due.promise(21, "VERSIONS of 1 on (of NOTHING any)");
        Line line = cutInSector9(43157, 24, 77, -16908545);
        checkFits(line.x, 9, 64, 28);
        line.isTold("LOADING counts", 1, 0, 0, 1, 43415, 280, 1, 1, 513, 66055);
        Due.is("its program is not there", line.x.boot(), NONE);
        line.isTold("nothing is written", 0, 0, 0, 1, 43415, 280, 1, 1, 513, 66055);
        line = cutInSector9(32163, 24, 220, -33685761);
        checkFits(line.x, 9, 0, 28);
        line.isTold("READY counts", 1, 0, 0, 1, 32163 | 0x102, 536, 2, 1, 514, 66055);
        Due.is("neither program is there", line.x.boot(), NONE);
        line.isTold("TRIED, then NOTHING", 0, 0, 0, 1, 32163 | 0x102, 536, 0, 0, 0, 66057);
    }

    /** First a STATE in sector 8 comes to count, then one of the same number is left in sector 9, too. */
    private static void likeNumbers() {
        Due.promise(21, "the one of the greatest number counts (of like ones the first)");
        Line line = new Line(40);
        Device x = line.x;
        x.image(41722, 1, 90);
        loadWrongly(line, 1, 2);
        x.clear();
        x.image(50441, 81, 200);
        loadWrongly(line, 2, 1);
        cutWrongLoading(line, 2, -50497793);
        checkFits(x, 8, 96, 28);
        line.isTold("the one in sector 8", 1, 0, 0, 0, 35075, 808, 3, 41723, 515, 8978951);
        x.power(0, -50497793);
        Due.is("the erasing of sector 9 is cut", x.boot(), DOWN);
        checkFits(x, 9, 32, 28);
        Due.is("the number, above", pair(x, 9, 32), pair(x, 8, 96));
        Due.is("the number, below", pair(x, 9, 34), pair(x, 8, 98));
        line.isTold("the first counts", 1, 0, 0, 0, 35075, 808, 3, 41723, 515, 8978951);
    }

    private static int sendTimeAlone(Line line, int version, int end) {
        line.toTime(10);
        int said = line.sendTime(version, end);
        line.x.stop();
        return said;
    }

    private static void timeOfAGreaterNumber() {
        Due.promise(22, "of two the greater number (of like ones the first sector), counts");
        Line line = new Line(40);
        Device x = line.x;
        Due.is("the first", sendTimeAlone(line, 100, 1079786), 3);
        Due.is("the second", sendTimeAlone(line, 100, 1079000), 3);
        x.power(0, -65537);
        Due.is("the third is cut", sendTimeAlone(line, 100, 1079100), DOWN);
        checkFits(x, 2, 0, 27);
        int[] wanted = {101, 1079787, 8, 257};
        for (int what = 0; what < wanted.length; what++) {
            Due.is("what is left of the first counts, " + what, x.trusted(1, what, 0), wanted[what]);
        }
        Due.is("boot", x.boot(), 1);
        Due.is("100 is too old", sendTimeAlone(line, 100, 1079100), -13);
        Due.is("101 is not", sendTimeAlone(line, 101, 1079100), 3);
        Due.is("its number", x.trusted(1, 3, 0), 258);
        Due.is("its place", pair(x, 3, 2), 258);
        Due.is("the other stays", pair(x, 2, 2), 257);
    }

    /** The ROOT's bytes are so chosen that IMAGES of one image are left of them. */
    private static void rootOfAnotherRole() {
        Due.promise(22, "and that has a DOCUMENT of its role (or, but for ROOT, none)");
        Line line = new Line(40);
        Device x = line.x;
        x.plan(0, 1, 1);
        x.plan(3, 9, 2);
        x.begin(10);
        Due.is("the first", line.send(0, 2, 22848066, 0, 1), 1);
        Due.is("the second", line.send(0, 3, 900, 0), 1);
        x.power(0, -196609);
        Due.is("the third is cut", line.send(0, 4, 900, 0), DOWN);
        checkFits(x, 0, 0, 31);
        Due.is("its number is greater", pair(x, 0, 2), 769);
        Due.is("its role", x.flash(0, 6), 3);
        Due.is("how many images", x.flash(0, 15), 1);
        Due.is("the second counts", x.trusted(0, 0, 0), 3);
        Due.is("its number", x.trusted(0, 3, 0), 2);
        Due.is("IMAGES", x.trusted(3, 0, 0), NONE);
    }
}
