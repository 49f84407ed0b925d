/** Promises 14, 16 and 21: which image is wanted, and PIECES at the boundaries of pages, of the slot and of LENGTH. */
public final class EdgePieceTest {
    private static final int BAD = FlashTrust.BAD, DOWN = FlashTrust.DOWN;

    public static void main(String[] args) {
        noImage();
        newerThanTheConfirmed();
        theLastImage();
        readyIsDone();
        stagedOfAnotherVersion();
        stagedOfAnotherDigest();
        stagedOfAnotherLength();
        upperBytesOfADigestDoNotCount();
        otherwiseTheSlotIsErased();
        pieceLengths();
        piecesOfAnotherLength();
        lastPieceEndsIt();
        pagesOfPieces();
        writingKeepsBitsOfBoth();
        goesOnAtTheLastByte();
        goesOnBehindACut();
        bytesBehindLengthDoNotCount();
        digestOfLengthBytes();
        Due.close("EdgePieceTest");
    }

    private static Line loading(int length, int seed) {
        Line line = new Line(40);
        line.x.image(2, length, seed);
        Due.is("LOADING " + length, line.toPieces(1), 5);
        return line;
    }

    private static int give(Device x, Bytes piece) {
        piece.feedTo(x);
        return x.answer();
    }

    private static void noImage() {
        Due.promise(14, "Then the last image of them: there is none, or it is not of a VERSION above that of the "
                + "CONFIRMED program (9).");
        Line line = new Line(40);
        Due.is("no image", line.toPieces(1), -19);
        Due.is("the ERROR", line.x.told(13), 9);
        Due.is("IMAGES are KEPT", line.x.trusted(3, 7, 0), 0);
        Due.is("image 0 of none", line.x.trusted(3, 8, 0), BAD);
        Due.is("nothing is STAGED", line.x.told(6), 0);
        Due.is("no slot is erased", line.x.told(11), 3);
    }

    private static void newerThanTheConfirmed() {
        Due.promise(14, "it is not of a VERSION above that of the CONFIRMED program (9)");
        int[] versions = {1, 2, 4, 5, 6, 255, 256, 257, 65535};
        int[] confirmed = {1, 5, 256};
        for (int old : confirmed) {
            for (int version : versions) {
                Line line = new Line(40);
                if (old > 1) {
                    line.load(old, 20, 1);
                    line.x.boot();
                    line.x.test(true);
                    line.x.clear();
                }
                Due.is("CONFIRMED", line.x.told(4), old);
                line.x.image(version, 30, 3);
                Due.is(version + " behind " + old, line.toPieces(old + 1), version > old ? 5 : -19);
                Due.is("STAGED", line.x.told(6), version > old ? 1 : 0);
            }
        }
    }

    private static void theLastImage() {
        Due.promise(14, "Then the last image of them");
        for (int count = 1; count <= 4; count++) {
            Line line = new Line(40);
            for (int i = 1; i <= count; i++) {
                line.x.image(10 * i, 100 + i, i);
            }
            Due.is(count + " images", line.toPieces(1), 5);
            Due.is("VERSION of the last", line.x.awaits(1), 10 * count);
            Due.is("STAGED", line.x.told(7), 10 * count);
            Due.is("its LENGTH", line.x.told(8), 100 + count);
            for (int k = -1; k <= 4; k++) {
                boolean isThere = k >= 0 && k < count;
                Due.is("VERSION of image " + k, line.x.trusted(3, 8, k), isThere ? 10 * (k + 1) : BAD);
                Due.is("LENGTH of image " + k, line.x.trusted(3, 9, k), isThere ? 101 + k : BAD);
            }
            Due.is("how many", line.x.trusted(3, 7, 0), count);
            Due.is("done", line.sendPieces(), 0);
        }
    }

    private static void readyIsDone() {
        Due.promise(14, "at READY it AWAITS nothing (it is done: error 0)");
        Line line = loading(70, 5);
        line.sendPieces();
        long before = Picture.of(line.x);
        line.toTime(20);
        line.prepare(1, 500);
        Due.is("done", line.sendTime(1, 500), 0);
        Due.is("nothing is changed", Picture.of(line.x), before);
        Due.is("error 0", line.x.told(13), 0);
        Due.is("nothing is AWAITED", line.x.awaits(0), 0);
        Due.is("no clock", line.x.told(14), 0);
    }

    /** What is STAGED, LOADING or READY, is not the image that is wanted: it is erased. */
    private static void isErasedFor(String what, Line line, int said) {
        Due.is(what, said, 5);
        Due.is(what + ", LOADING", line.x.told(6), 1);
        Due.is(what + ", PIECE 0", line.x.awaits(2), 0);
        for (int i = 0; i < 128; i++) {
            Due.is(what + ", erased", line.x.flash(18, i), 255);
        }
    }

    private static Line staged(int length, int seed, boolean isReady) {
        Line line = new Line(40);
        line.x.image(3, length, seed);
        Due.is("LOADING", line.toPieces(1), 5);
        if (isReady) {
            Due.is("READY", line.sendPieces(), 0);
        } else {
            line.x.piece(3, 0);
            Due.is("a PIECE", line.x.answer(), 5);
            line.x.stop();
        }
        line.x.clear();
        return line;
    }

    private static void stagedOfAnotherVersion() {
        Due.promise(14, "Else, if what is STAGED (4) has just its VERSION, LENGTH and DIGEST");
        for (int version = 2; version <= 4; version++) {
            for (int ready = 0; ready < 2; ready++) {
                Line line = staged(70, 5, ready == 1);
                line.x.image(version, 70, 5);
                int said = line.toPieces(2);
                if (version != 3) {
                    isErasedFor("VERSION " + version, line, said);
                    Due.is("its VERSION", line.x.told(7), version);
                } else {
                    Due.is("the same image by other IMAGES", said, ready == 1 ? 0 : 5);
                    Due.is("not erased", line.x.flash(18, 0), 5);
                }
            }
        }
    }

    private static void stagedOfAnotherDigest() {
        Due.promise(14, "has just its VERSION, LENGTH and DIGEST");
        int[] seeds = {4, 6, 77};
        for (int seed : seeds) {
            for (int ready = 0; ready < 2; ready++) {
                Line line = staged(70, 5, ready == 1);
                line.x.image(3, 70, seed);
                isErasedFor("seed " + seed, line, line.toPieces(2));
            }
        }
    }

    /** IMAGES that were not drafted, but have the DIGEST of IMAGES that were: none, VERSION 1, END 500. */
    private static int sendByHand(Line line, Bytes body) {
        Due.is("the DIGEST is the same", body.digest(), new Bytes().num(1, 2).num(500, 4).num(0, 1).digest());
        line.x.clear();
        line.prepare(1, 500);
        line.x.stop();
        line.toTime(10);
        if (line.sendTime(5, 500) == 3) {
            Due.is("LIST", line.sendList(1, 500), 4);
        }
        line.x.draft(3, 1, 500);
        line.x.sign(5);
        line.x.sign(6);
        Bytes.document(3, body, 5, 6).feedTo(line.x);
        return line.x.answer();
    }

    /** Two images, of which the DIGEST of the first was looked for; the last one is of VERSION 3. */
    private static Bytes imagesByHand(long found, int length, long digest) {
        return new Bytes().num(1, 2).num(500, 4).num(2, 1).num(2, 2).num(1, 2).num(found, 8)
                .num(3, 2).num(length, 2).num(digest, 8);
    }

    private static void stagedOfAnotherLength() {
        Due.promise(14, "has just its VERSION, LENGTH and DIGEST");
        for (int ready = 0; ready < 2; ready++) {
            Line line = staged(70, 5, ready == 1);
            Bytes body = imagesByHand(0xFE028F1C273F2291L, 71, Bytes.program(70, 5).digest());
            isErasedFor("LENGTH 71, the DIGEST of 70", line, sendByHand(line, body));
            Due.is("its LENGTH", line.x.told(8), 71);
        }
    }

    private static void upperBytesOfADigestDoNotCount() {
        Due.promise(14, "(DIGESTS of programs are held by their lowest 6 bytes everywhere.)");
        long other = Bytes.program(70, 5).digest() ^ 0xFFFF000000000000L;
        Bytes body = imagesByHand(0x28E69D8B4F32484DL, 70, other);
        Line line = new Line(40);
        Due.is("IMAGES of another DIGEST, in its upper 2 bytes", sendByHand(line, body), 5);
        line.x.image(3, 70, 5);
        Due.is("the program has it", line.sendPieces(), 0);
        Due.is("and RUNS", line.x.boot(), 3);
        line = staged(70, 5, false);
        Due.is("LOADING goes on", sendByHand(line, body), 5);
        Due.is("with PIECE 0", line.x.awaits(2), 0);
        Due.is("not erased", line.x.flash(18, 0), 5);
        line = staged(70, 5, true);
        Due.is("READY is done", sendByHand(line, body), 0);
    }

    /** TIME, LIST and IMAGES take 2, 2 and 3 writings and erasings, the slot 8, the STATE 1. */
    private static void otherwiseTheSlotIsErased() {
        Due.promise(14, "Otherwise: the slot that is not CONFIRMED is erased, sector by sector; a STATE is written: "
                + "LOADING that image; PIECE 0.");
        Bytes old = Bytes.program(1024, 5);
        for (int n = 7; n <= 16; n++) {
            Line line = staged(1024, 5, true);
            Device x = line.x;
            old.part(0, 128).isOnFlash("the old program", x, 18, 0);
            x.image(4, 50, 9);
            x.power(n, -1);
            Due.is("cut behind " + n, line.toPieces(2), n < 16 ? DOWN : 5);
            for (int i = 0; i < 8; i++) {
                Bytes want = i < n - 7 ? new Bytes().padTo(128) : old.part(128 * i, 128 * i + 128);
                want.isOnFlash("cut behind " + n, x, 18 + i, 0);
            }
            Due.is("slot 0 stays", x.flash(10, 0), 3);
            Due.is("what is STAGED", x.told(6), n < 16 ? 2 : 1);
            Due.is("its VERSION", x.told(7), n < 16 ? 3 : 4);
            Due.is("its LENGTH", x.told(8), n < 16 ? 1024 : 50);
            Due.is("the STATE", x.told(9), n < 16 ? 3 : 4);
            Due.is("those left", x.told(12), n < 16 ? -1 : 0);
            Due.is("PIECE", x.awaits(2), 0);
        }
    }

    private static void pieceLengths() {
        Due.promise(14, "PIECES have 64 bytes (two pages), the last one what is left.");
        int[] lengths = {1, 2, 63, 64, 65, 66, 127, 128, 129, 1023, 1024};
        for (int length : lengths) {
            Line line = loading(length, 77);
            Device x = line.x;
            Bytes program = Bytes.program(length, 77);
            int count = (length + 63) / 64;
            for (int k = 0; k < count; k++) {
                Due.is(length + ", PIECE", x.awaits(2), k);
                int said = give(x, program.part(64 * k, Math.min(64 * k + 64, length)));
                Due.is(length + ", PIECE " + k + " of " + count, said, k + 1 < count ? 5 : 0);
            }
            Due.is("READY", x.told(6), 2);
            Due.is("nothing is AWAITED", x.awaits(0), 0);
        }
    }

    private static void piecesOfAnotherLength() {
        Due.promise(14, "One of another length is error 7 (LOADING stays).");
        int[] lengths = {1, 2, 63, 64, 65, 100, 128, 129, 1024};
        for (int length : lengths) {
            int last = (length - 1) / 64;
            for (int k = 0; k <= last; k = k < last ? last : last + 1) {
                int due = Math.min(64, length - 64 * k);
                int[] sizes = {0, due - 1, due + 1, 65, 128, 300};
                for (int size : sizes) {
                    isWrongLength(length, k, size, due);
                }
            }
        }
    }

    private static void isWrongLength(int length, int k, int size, int due) {
        Line line = loading(length, 77);
        Device x = line.x;
        for (int i = 0; i < k; i++) {
            x.piece(2, i);
            Due.is("PIECE " + i, x.answer(), 5);
        }
        new Bytes().padTo(size).feedTo(x);
        Due.is("the size", Bytes.sizeOfTape(x), size);
        long before = Picture.of(x);
        Due.is(size + " bytes instead of " + due, x.answer(), -17);
        Due.is("LOADING stays, as all else", Picture.of(x), before);
        Due.is("LOADING", x.told(6), 1);
        Due.is("the tape is empty", x.byteOf(0), BAD);
    }

    private static void lastPieceEndsIt() {
        Due.promise(14, "With the last one: the DIGEST of LENGTH bytes of the slot: as told: the STATE READY is written, "
                + "AWAITS nothing");
        int[] lengths = {1, 64, 65, 1024};
        for (int length : lengths) {
            int last = (length - 1) / 64;
            int[] places = {0, length - 1 - 64 * last};
            for (int place : places) {
                for (int bit = 0; bit < 2; bit++) {
                    Line line = loading(length, 77);
                    for (int k = 0; k <= last; k++) {
                        line.x.piece(2, k);
                        if (k == last && bit == 1) {
                            line.x.spoil(place, 128);
                        }
                        int end = bit == 1 ? -18 : 0;
                        Due.is(length + ", PIECE " + k, line.x.answer(), k < last ? 5 : end);
                    }
                    Due.is("STAGED", line.x.told(6), bit == 1 ? 0 : 2);
                }
            }
        }
    }

    private static void pagesOfPieces() {
        Due.promise(14, "It is written page by page, as many as it has bytes for (255s behind its end).");
        int[] lengths = {1, 31, 32, 33, 63, 64, 65, 96, 97};
        for (int length : lengths) {
            int pages = (length + 31) / 32;
            for (int n = 0; n <= pages + 1; n++) {
                Line line = loading(length, 77);
                Device x = line.x;
                int writings = x.told(10);
                x.power(n, -1);
                int said = 5;
                for (int k = 0; 64 * k < length && said == 5; k++) {
                    x.piece(2, k);
                    said = x.answer();
                }
                Due.is(length + ", cut behind " + n, said, n <= pages ? DOWN : 0);
                Due.is("writings", x.told(10) - writings, Math.min(n + 1, pages + 1));
                Bytes written = Bytes.program(length, 77).part(0, Math.min(32 * n, length)).padTo(128);
                written.isOnFlash(length + ", the pages ahead of the cut", x, 18, 0);
            }
        }
    }

    private static void writingKeepsBitsOfBoth() {
        Due.promise(23, "WRITING a page: each byte becomes the bits that it and the new one both have, all 32 or none.");
        Line line = loading(70, 5);
        Device x = line.x;
        Bytes first = new Bytes();
        Bytes second = new Bytes();
        Bytes both = new Bytes();
        for (int i = 0; i < 64; i++) {
            first.ones(37 * i + 11 & 255);
            second.ones(91 * i + 200 & 255);
            both.ones(37 * i + 11 & 91 * i + 200 & 255);
        }
        Due.is("the first", give(x, first), 5);
        first.isOnFlash("on what was erased", x, 18, 0);
        x.stop();
        line.toPieces(1);
        Due.is("it goes on in PIECE 0", x.awaits(2), 0);
        x.power(1, 0);
        Due.is("cut behind the first page", give(x, second), DOWN);
        both.part(0, 32).add(first.part(32, 64)).isOnFlash("one page of both", x, 18, 0);
        x.boot();
        line.toPieces(1);
        Due.is("the second", give(x, second), 5);
        both.isOnFlash("both pages of both", x, 18, 0);
    }

    private static void goesOnAtTheLastByte() {
        Due.promise(16, "in LOADING it goes on: the PIECE that has the last byte of the slot that is not 255 (0 without");
        // LENGTH, the place of the last byte that is not 255 (-1: none), how many PIECES came, the one that is wanted.
        int[][] cases = {{200, -1, 0, 0}, {200, -1, 1, 0}, {200, -1, 3, 0}, {200, 0, 1, 0}, {200, 0, 3, 0},
            {200, 1, 1, 0}, {200, 62, 2, 0}, {200, 63, 1, 0}, {200, 63, 3, 0}, {200, 64, 2, 1}, {200, 64, 3, 1},
            {200, 65, 2, 1}, {200, 127, 2, 1}, {200, 127, 3, 1}, {200, 128, 3, 2}, {200, 191, 3, 2}, {1024, 959, 15, 14},
            {1024, 896, 15, 14}, {1024, 895, 15, 13}, {1024, 0, 15, 0}};
        for (int[] c : cases) {
            Line line = loading(c[0], 5);
            Device x = line.x;
            for (int k = 0; k < c[2]; k++) {
                Bytes piece = new Bytes().padTo(64);
                if (c[1] / 64 == k && c[1] >= 0) {
                    piece.all.set(c[1] % 64, 254);
                }
                Due.is("PIECE " + k, give(x, piece), 5);
            }
            x.stop();
            int erasings = x.told(11);
            Due.is("it goes on", line.toPieces(1), 5);
            Due.is("LENGTH " + c[0] + ", last byte " + c[1] + ", PIECE", x.awaits(2), c[3]);
            Due.is("nothing is erased", x.told(11), erasings);
        }
    }

    /** The second page of the last PIECE was not written: PIECES of 64 bytes, and those behind, come again. */
    private static void goesOnBehindACut() {
        Due.promise(16, "and those behind");
        for (int n = 0; n <= 6; n++) {
            Line line = loading(192, 5);
            Device x = line.x;
            x.power(n, 0);
            Due.is("cut behind " + n, line.sendPieces(), DOWN);
            x.boot();
            Due.is("it goes on", line.toPieces(1), 5);
            int first = Math.max(n - 1, 0) / 2;
            Due.is("cut behind " + n + ", PIECE", x.awaits(2), first);
            for (int k = first; k < 3; k++) {
                x.piece(2, k);
                Due.is("PIECE " + k, x.answer(), k < 2 ? 5 : 0);
            }
        }
    }

    /**
     * The slot has bytes of a longer image, when a STATE comes to count that an erasing, cut, has left of the LOADING
     * of a shorter one: VERSION 34909, 129 bytes. The mask was looked for: LENGTHS and DIGESTS stay as they were, and
     * the CHECK fits.
     */
    private static Line shorterAgain(Bytes longer) {
        Line line = new Line(178);
        Device x = line.x;
        x.image(34909, 129, 74);
        Due.is("STATE 2: LOADING the shorter", line.toPieces(1), 5);
        x.piece(34909, 0);
        x.answer();
        x.piece(34909, 1);
        x.answer();
        Due.is("STATE 3", give(x, new Bytes().ones(0)), -18);
        x.clear();
        x.image(40000, longer.size(), 1);
        for (int round = 0; round < 3; round++) {
            Due.is("LOADING the longer", line.toPieces(2), 5);
            Due.is("its STATE", x.told(9), 4 + 2 * round);
            int count = (longer.size() + 63) / 64;
            for (int k = 0; k < count; k++) {
                if (round == 2 && k == count - 1) {
                    x.power(1, -18433);
                }
                int said = give(x, longer.part(64 * k, Math.min(64 * k + 64, longer.size())));
                Due.is("PIECE " + k, said, k < count - 1 ? 5 : round < 2 ? -18 : DOWN);
            }
        }
        line.isTold("LOADING the shorter counts", 1, 0, 0, 0, 18433, 178, 1, 34909, 129, 2 + (72 << 16));
        Due.is("the CONFIRMED program is as it was", x.boot(), 18433);
        x.clear();
        x.image(34909, 129, 74);
        Due.is("it goes on", line.toPieces(3), 5);
        Due.is("nothing was written", x.told(9), 2 + (72 << 16));
        return line;
    }

    private static void bytesBehindLengthDoNotCount() {
        Due.promise(16, "(0 without; bytes behind LENGTH do not count)");
        // The last byte within LENGTH that is not 255 (-1: none); the PIECE that is wanted.
        int[][] cases = {{128, 2}, {127, 1}, {64, 1}, {63, 0}, {0, 0}, {-1, 0}};
        for (int[] c : cases) {
            Bytes longer = new Bytes().padTo(129).padTo(200);
            for (int i = 129; i < 200; i++) {
                longer.all.set(i, 7);
            }
            if (c[0] >= 0) {
                longer.all.set(c[0], 254);
            }
            Line line = shorterAgain(longer);
            Due.is("byte 129 is not 255", line.x.flash(19, 1), 7);
            Due.is("last byte " + c[0] + ", PIECE", line.x.awaits(2), c[1]);
        }
    }

    private static void digestOfLengthBytes() {
        Due.promise(14, "the DIGEST of LENGTH bytes of the slot");
        Bytes longer = Bytes.program(129, 74).part(0, 128).ones(255);
        while (longer.size() < 200) {
            longer.ones(7);
        }
        Line line = shorterAgain(longer);
        Due.is("PIECE 1 and those behind", line.x.awaits(2), 1);
        Due.is("READY, whatever is behind LENGTH", line.sendPieces(), 0);
        Due.is("byte 128", line.x.flash(19, 0), Bytes.program(129, 74).all.get(128));
        Due.is("byte 129", line.x.flash(19, 1), 7);
        Due.is("on trial", line.x.boot(), 34909);
        Due.is("kept", line.x.test(true), 34909);
        Due.is("boot", line.x.boot(), 34909);
    }
}
