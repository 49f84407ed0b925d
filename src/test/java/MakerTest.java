/** Promises 5 plan, 6 image, 7 clear, 8 draft, 9 sign, 10 show, 11 piece. */
public final class MakerTest {
    private static final int BAD = FlashTrust.BAD, FULL = FlashTrust.FULL;

    public static void main(String[] args) {
        plan();
        images();
        clear();
        wrongDrafts();
        draftOfRoot();
        draftsThatTell();
        draftOfImages();
        sign();
        tableIsFull();
        show();
        pieces();
        Due.close("MakerTest");
    }

    private static void plan() {
        Device x = new Device(1);
        Due.is("plan(0, 1, 1)", x.plan(0, 1, 1), 1);
        Due.is("five keys", x.plan(3, 0xF800, 5), 1);
        Due.is("no key", x.plan(0, 0, 1), BAD);
        Due.is("no key, threshold 0", x.plan(0, 0, 0), BAD);
        Due.is("six keys", x.plan(0, 63, 1), BAD);
        Due.is("a key above 15", x.plan(0, 1 << 16, 1), BAD);
        Due.is("bits below 0", x.plan(0, Integer.MIN_VALUE, 1), BAD);
        Due.is("threshold 0", x.plan(0, 3, 0), BAD);
        Due.is("threshold above the keys", x.plan(0, 3, 3), BAD);
        Due.is("role -1", x.plan(-1, 3, 1), BAD);
        Due.is("role 4", x.plan(4, 3, 1), BAD);
        x.draft(0, 1, 0);
        x.show();
        Bytes.document(0, new Bytes().num(1, 2).num(0, 4).ones(1, 1, 0, 1, 1, 3, 1, 1, 4)
                .ones(5, 5, 11, 12, 13, 14, 15)).isOnTape("what was BAD changes nothing", x);
    }

    private static void images() {
        Device x = new Device(1);
        Due.is("VERSION 0", x.image(0, 5, 5), BAD);
        Due.is("VERSION 65536", x.image(65536, 5, 5), BAD);
        Due.is("LENGTH 0", x.image(1, 0, 5), BAD);
        Due.is("LENGTH 1025", x.image(1, 1025, 5), BAD);
        Due.is("the first", x.image(1, 1024, 5), 1);
        Due.is("a VERSION as the last one's", x.image(1, 5, 5), BAD);
        Due.is("the second", x.image(7, 1, 5), 2);
        Due.is("a VERSION below the last one's", x.image(6, 5, 5), BAD);
        Due.is("the third", x.image(8, 5, Integer.MIN_VALUE), 3);
        Due.is("the fourth", x.image(65534, 5, -1), 4);
        Due.is("a fifth", x.image(65535, 5, 5), FULL);
        Due.is("a fifth that is none", x.image(65534, 5, 5), BAD);
    }

    private static void clear() {
        Device x = new Device(1);
        Due.is("clear of none", x.clear(), 0);
        x.image(5, 64, 1);
        x.image(6, 64, 1);
        Due.is("clear of two", x.clear(), 2);
        Due.is("clear again", x.clear(), 0);
        Due.is("the images are gone", x.piece(5, 0), BAD);
        Due.is("a lower VERSION may come", x.image(2, 64, 1), 1);
        Due.is("the BODY has one", x.draft(3, 1, 1), 19);
    }

    private static void wrongDrafts() {
        Device x = new Device(1);
        Due.is("role -1", x.draft(-1, 1, 1), BAD);
        Due.is("role 4", x.draft(4, 1, 1), BAD);
        Due.is("VERSION 0", x.draft(1, 0, 1), BAD);
        Due.is("VERSION 65536", x.draft(1, 65536, 1), BAD);
        Due.is("END -1", x.draft(1, 1, -1), BAD);
        Due.is("there is no DRAFT yet", x.show(), BAD);
        Due.is("the greatest", x.draft(1, 65535, Integer.MAX_VALUE), 16);
        Due.is("VERSION 0 again", x.draft(2, 0, 1), BAD);
        x.show();
        Bytes.document(1, Bytes.told(65535, Integer.MAX_VALUE, 1, 0)).isOnTape("the DRAFT stays", x);
    }

    private static void draftOfRoot() {
        Device x = new Device(1);
        Due.is("the factory's", x.draft(0, 258, 0x01020304), 21);
        x.show();
        Bytes body = new Bytes().num(258, 2).num(0x01020304, 4)
                .ones(2, 3, 0, 1, 2, 1, 1, 3, 1, 1, 4, 2, 2, 5, 6);
        Bytes.document(0, body).isOnTape("the factory's PLAN", x);
        x.plan(2, 0x8421, 3);
        Due.is("with four keys of LIST", x.draft(0, 1, 0), 24);
        x.show();
        body = new Bytes().num(1, 2).num(0, 4).ones(2, 3, 0, 1, 2, 1, 1, 3, 3, 4, 0, 5, 10, 15, 2, 2, 5, 6);
        Bytes.document(0, body).isOnTape("another PLAN", x);
    }

    private static void draftsThatTell() {
        Device x = new Device(1);
        x.draft(2, 4, 9);
        x.show();
        Bytes list = Bytes.told(4, 9, 1, 0);
        Bytes.document(2, list).isOnTape("LIST without IMAGES", x);
        x.draft(1, 5, 8);
        x.show();
        Bytes.document(1, Bytes.told(5, 8, 4, list.digest())).isOnTape("TIME tells of the LIST", x);
        x.draft(3, 7, 3);
        Bytes images = new Bytes().num(7, 2).num(3, 4).num(0, 1);
        x.draft(1, 6, 8);
        x.show();
        Bytes.document(1, Bytes.told(6, 8, 4, list.digest())).isOnTape("IMAGES are not the LIST", x);
        x.draft(2, 5, 9);
        x.show();
        list = Bytes.told(5, 9, 7, images.digest());
        Bytes.document(2, list).isOnTape("LIST tells of the IMAGES", x);
        x.draft(2, 0, 9);
        x.draft(1, 6, 8);
        x.show();
        Bytes.document(1, Bytes.told(6, 8, 5, list.digest())).isOnTape("TIME tells of the last LIST", x);
    }

    private static void draftOfImages() {
        Device x = new Device(1);
        Due.is("none", x.draft(3, 1, 1), 7);
        x.image(300, 1, 200);
        Due.is("one", x.draft(3, 1, 1), 19);
        x.image(301, 1024, -123456789);
        x.image(302, 130, Integer.MAX_VALUE);
        x.image(65535, 64, 0);
        Due.is("four", x.draft(3, 2, 77), 55);
        x.show();
        Bytes body = new Bytes().num(2, 2).num(77, 4).num(4, 1)
                .num(300, 2).num(1, 2).num(Bytes.program(1, 200).digest(), 8)
                .num(301, 2).num(1024, 2).num(Bytes.program(1024, -123456789).digest(), 8)
                .num(302, 2).num(130, 2).num(Bytes.program(130, Integer.MAX_VALUE).digest(), 8)
                .num(65535, 2).num(64, 2).num(Bytes.program(64, 0).digest(), 8);
        Bytes.document(3, body).isOnTape("four images", x);
    }

    private static void sign() {
        Device x = new Device(1);
        Due.is("no DRAFT", x.sign(3), BAD);
        x.draft(1, 1, 1);
        Due.is("key -1", x.sign(-1), BAD);
        Due.is("key 16", x.sign(16), BAD);
        Due.is("key 15", x.sign(15), 1);
        Due.is("key 0", x.sign(0), 2);
        Due.is("key 15 again", x.sign(15), 2);
        Due.is("key 7", x.sign(7), 3);
        Due.is("show", x.show(), 23);
        Bytes.document(1, Bytes.told(1, 1, 1, 0), 0, 7, 15).isOnTape("keys rise", x);
        x.draft(1, 1, 1);
        Due.is("a new DRAFT has no keys", x.show(), 20);
        Due.is("and its first comes", x.sign(15), 1);
    }

    private static void tableIsFull() {
        Device x = new Device(1);
        for (int version = 1; version <= 25; version++) {
            x.draft(1, version, 1);
            for (int key = 0; key < 16; key++) {
                Due.is("signature " + (16 * version + key), x.sign(key), key + 1);
            }
        }
        x.draft(1, 26, 1);
        Due.is("the 401st", x.sign(0), FULL);
        Due.is("no such key", x.sign(16), BAD);
        Due.is("the key did not come", x.show(), 20);
        x.draft(1, 25, 1);
        Due.is("one that is in the table", x.sign(9), 1);
        Due.is("another that is in it", x.sign(3), 2);
        Due.is("both came", x.show(), 22);
    }

    private static void show() {
        Device x = new Device(1);
        Due.is("no DRAFT", x.show(), BAD);
        x.feed(1, 2, 3, 4, 5);
        Due.is("no DRAFT, with a tape", x.show(), BAD);
        Due.is("the tape stays", x.byteOf(3), 1);
        x.draft(3, 1, 9);
        Due.is("show", x.show(), 11);
        Bytes.document(3, new Bytes().num(1, 2).num(9, 4).num(0, 1)).isOnTape("instead of what is there", x);
        Due.is("show again", x.show(), 11);
    }

    private static void pieces() {
        Device x = new Device(1);
        x.image(4, 130, 201);
        x.image(9, 64, -7);
        x.image(10, 1024, 13);
        x.feed(1, 2, 3, 4, 5);
        Due.is("no such image", x.piece(5, 0), BAD);
        Due.is("piece -1", x.piece(4, -1), BAD);
        Due.is("piece 3 of 130 bytes", x.piece(4, 3), BAD);
        Due.is("a far piece", x.piece(4, 1 << 26), BAD);
        Due.is("the farthest piece", x.piece(4, Integer.MAX_VALUE), BAD);
        Due.is("piece 1 of 64 bytes", x.piece(9, 1), BAD);
        Due.is("the tape stays", x.byteOf(3), 1);
        isPiece(x, 4, 0, Bytes.program(130, 201));
        isPiece(x, 4, 1, Bytes.program(130, 201));
        isPiece(x, 4, 2, Bytes.program(130, 201));
        isPiece(x, 9, 0, Bytes.program(64, -7));
        isPiece(x, 10, 15, Bytes.program(1024, 13));
        Due.is("piece 16 of 1,024 bytes", x.piece(10, 16), BAD);
    }

    private static void isPiece(Device x, int version, int k, Bytes program) {
        Bytes piece = new Bytes();
        for (int i = 64 * k; i < Math.min(64 * k + 64, program.size()); i++) {
            piece.ones(program.all.get(i));
        }
        Due.is("piece(" + version + ", " + k + ")", x.piece(version, k), piece.size());
        piece.isOnTape("piece " + k, x);
    }
}
