/**
 * Promises 19 and 21, which STATE counts: erasings that power cuts in such a way that the CHECK of what they leave
 * fits. Such masks are rare; they were looked for among some 2^32 of masks, VERSIONS, LENGTHS and seeds.
 */
public final class CutStateTest {
    private static final int DOWN = FlashTrust.DOWN, NONE = FlashTrust.NONE, STATE = FlashTrust.STATE;

    public static void main(String[] args) {
        bytesBehindTheDigestAreFree();
        Due.close("CutStateTest");
    }

    /** Four times the image comes wrong, so that sector 8, with the STATES 1 to 4, is erased for the last NOTHING. */
    private static Line cut(int n, int version, int length, int seed, int mask) {
        Line line = new Line(n);
        FlashTrust x = line.x;
        x.image(version, length, seed);
        for (int i = 0; i < 4; i++) {
            Due.is("LOADING", line.toPieces(1), 5);
            int pages = sendWrongPieces(x, length, i == 3 ? mask : -1, i == 3);
            Due.is("pages", pages, (length + 31) / 32);
        }
        Due.is("DOWN", x.told(0), 1);
        return line;
    }

    /** Zeros instead of the image; the last piece is cut in the erasing behind it, if it is to be. */
    private static int sendWrongPieces(FlashTrust x, int length, int mask, boolean isCut) {
        int pages = 0;
        for (int from = 0; from < length; from += 64) {
            int size = Math.min(64, length - from);
            Bytes zeros = new Bytes();
            for (int i = 0; i < size; i++) {
                zeros.ones(0);
            }
            zeros.feedTo(x);
            pages += (size + 31) / 32;
            boolean isLast = from + size == length;
            if (isLast && isCut) {
                x.power((size + 31) / 32, mask);
            }
            Due.is("zeros", x.answer(), !isLast ? 5 : isCut ? DOWN : -18);
        }
        return pages;
    }

    /** What the erasing leaves in page 1 of sector 8 has all that is asked, and a greater number than 8. */
    private static void bytesBehindTheDigestAreFree() {
        Line line = cut(0, 590, 20, 90, -50528513);
        FlashTrust x = line.x;
        Due.is("the first of the two bytes", x.flash(8, 32 + 26) + x.flash(8, 32 + 27) > 0 ? 1 : 0, 1);
        line.isTold("it counts", 1, 0, 0, 0, 259, 769, 3, 591, 791, 66307);
        Due.is("its program is not there", x.boot(), NONE);
        line.isTold("NOTHING is written", 0, 0, 0, 0, 259, 769, 0, 0, 0, 66308);
        Due.is("in the other sector", x.flash(9, 1) * 65536 + x.flash(9, 2) * 256 + x.flash(9, 3), 66308);
        new Bytes().padTo(96).isOnFlash("which was erased", x, 9, 32);
        Due.is("the two bytes are 0 again", x.flash(9, 26) + x.flash(9, 27), 0);
        Due.is("nothing RUNS", x.begin(0), STATE);
        Due.is("boot again", x.boot(), NONE);
        Due.is("nothing is written", x.told(9), 66308);
    }
}
