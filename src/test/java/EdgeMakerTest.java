/** The boundaries of promises 5 to 11: the other side. */
public final class EdgeMakerTest {
    private static final int BAD = FlashTrust.BAD, FULL = FlashTrust.FULL;
    private static final int LEAST = Integer.MIN_VALUE, MOST = Integer.MAX_VALUE;

    public static void main(String[] args) {
        planRoles();
        planKeys();
        planThresholds();
        imageVersions();
        imageVersionsRise();
        imageLengths();
        imageBytes();
        imagesAreFull();
        clearOfNoneToFour();
        draftRoles();
        draftVersions();
        draftEnds();
        draftLengths();
        draftTellsOneWithout();
        draftStandsAsItWasMade();
        signWantsADraft();
        signKeys();
        signOnceMore();
        signTableOf400();
        showOfNone();
        pieceOfNoImage();
        pieceOfNoNumber();
        Due.close("EdgeMakerTest");
    }

    private static final int[][] FACTORY = {{2, 0, 1, 2}, {1, 3}, {1, 4}, {2, 5, 6}};

    /** What a DRAFT of ROOT holds, when one role of the factory's PLAN is another: its THRESHOLD, and its keys. */
    private static Bytes rootWith(int role, int... thresholdAndKeys) {
        Bytes body = new Bytes().num(1, 2).num(0, 4);
        for (int r = 0; r < 4; r++) {
            int[] given = r == role ? thresholdAndKeys : FACTORY[r];
            body.ones(given[0], given.length - 1);
            for (int i = 1; i < given.length; i++) {
                body.ones(given[i]);
            }
        }
        return Bytes.document(0, body);
    }

    private static void isPlanned(String what, Device x, Bytes root) {
        Due.is(what + ", draft", x.draft(0, 1, 0), root.size() - 4);
        Due.is(what + ", show", x.show(), root.size());
        root.isOnTape(what, x);
    }

    private static void isRefused(int role, int keys, int threshold) {
        Device x = new Device(1);
        String call = "plan(" + role + ", " + keys + ", " + threshold + ")";
        Due.is(call, x.plan(role, keys, threshold), BAD);
        isPlanned(call + " changes nothing", x, rootWith(0, FACTORY[0]));
    }

    private static void planRoles() {
        Due.promise(5, "A role's keys in the PLAN, as bits (1 to 5 of 16), and its THRESHOLD (1 .. their number): 1. "
                + "BAD: none such.");
        for (int role = 0; role < 4; role++) {
            Device x = new Device(1);
            Due.is("role " + role, x.plan(role, 1 << 9, 1), 1);
            isPlanned("role " + role, x, rootWith(role, 1, 9));
        }
        int[] none = {LEAST, -2, -1, 4, 5, 8, MOST};
        for (int role : none) {
            isRefused(role, 1, 1);
        }
    }

    private static void planKeys() {
        Due.promise(5, "as bits (1 to 5 of 16)");
        Device x = new Device(1);
        Due.is("key 0", x.plan(1, 1, 1), 1);
        isPlanned("key 0", x, rootWith(1, 1, 0));
        Due.is("key 15", x.plan(1, 0x8000, 1), 1);
        isPlanned("key 15", x, rootWith(1, 1, 15));
        Due.is("four keys", x.plan(1, 0x000F, 1), 1);
        isPlanned("four keys", x, rootWith(1, 1, 0, 1, 2, 3));
        Due.is("five keys", x.plan(1, 0x001F, 1), 1);
        isPlanned("five keys", x, rootWith(1, 1, 0, 1, 2, 3, 4));
        Due.is("the five highest", x.plan(1, 0xF800, 1), 1);
        isPlanned("the five highest", x, rootWith(1, 1, 11, 12, 13, 14, 15));
        int[] wrong = {0, 0x003F, 0xFC00, 0xFFFF, 0x10000, 0x10001, 0x20000, 1 << 30, LEAST, LEAST + 1, -1};
        for (int keys : wrong) {
            isRefused(1, keys, 1);
            isRefused(1, keys, 0);
        }
    }

    private static void planThresholds() {
        Due.promise(5, "its THRESHOLD (1 .. their number)");
        for (int count = 1; count <= 5; count++) {
            int keys = (1 << count) - 1;
            for (int threshold = 1; threshold <= count; threshold++) {
                Device x = new Device(1);
                Due.is(threshold + " of " + count, x.plan(2, keys, threshold), 1);
                int[] given = new int[count + 1];
                given[0] = threshold;
                for (int i = 1; i <= count; i++) {
                    given[i] = i - 1;
                }
                isPlanned(threshold + " of " + count, x, rootWith(2, given));
            }
            int[] wrong = {LEAST, -1, 0, count + 1, count + 2, MOST};
            for (int threshold : wrong) {
                isRefused(2, keys, threshold);
            }
        }
    }

    /** How many images a DRAFT of IMAGES has. */
    private static int images(Device x) {
        return (x.draft(3, 1, 1) - 7) / 12;
    }

    private static void imageVersions() {
        Due.promise(6, "The PLAN's image: its VERSION (1 .. 65,535), above the last one's");
        int[] good = {1, 2, 32767, 32768, 65534, 65535};
        for (int version : good) {
            Device x = new Device(1);
            Due.is("VERSION " + version, x.image(version, 5, 5), 1);
            Due.is("its PIECE", x.piece(version, 0), 5);
        }
        int[] wrong = {LEAST, -65535, -1, 0, 65536, 65537, MOST};
        for (int version : wrong) {
            Device x = new Device(1);
            Due.is("VERSION " + version, x.image(version, 5, 5), BAD);
            Due.is("none came", images(x), 0);
            Due.is("nor has it a PIECE", x.piece(version, 0), BAD);
        }
    }

    private static void imageVersionsRise() {
        Due.promise(6, "above the last one's");
        Device x = new Device(1);
        Due.is("the first", x.image(100, 5, 5), 1);
        int[] wrong = {1, 99, 100};
        for (int version : wrong) {
            Due.is("VERSION " + version + " behind 100", x.image(version, 5, 6), BAD);
            Due.is("none came", images(x), 1);
        }
        Due.is("one above", x.image(101, 5, 5), 2);
        Due.is("the same as the last one", x.image(101, 5, 5), BAD);
        Due.is("above the first alone", x.image(100, 5, 5), BAD);
        Due.is("the greatest", x.image(65535, 5, 5), 3);
        Due.is("none is above it", x.image(65535, 5, 5), BAD);
        Due.is("nor this", x.image(65536, 5, 5), BAD);
        Due.is("three are there", images(x), 3);
    }

    private static void imageLengths() {
        Due.promise(6, "LENGTH 1 .. 1,024");
        int[] good = {1, 2, 1023, 1024};
        for (int length : good) {
            Device x = new Device(1);
            Due.is("LENGTH " + length, x.image(7, length, 5), 1);
            int last = (length - 1) / 64;
            Due.is("its last PIECE", x.piece(7, last), length - 64 * last);
            Due.is("none behind it", x.piece(7, last + 1), BAD);
        }
        int[] wrong = {LEAST, -1024, -1, 0, 1025, 1026, 65537, MOST};
        for (int length : wrong) {
            Device x = new Device(1);
            Due.is("LENGTH " + length, x.image(7, length, 5), BAD);
            Due.is("none came", images(x), 0);
        }
    }

    private static void imageBytes() {
        Due.promise(6, "its byte i is the lowest 8 bits of seed + 7 i + (i shifted right by 6) times the seed: how many it "
                + "has.");
        int[] seeds = {0, 1, 255, 256, -1, 1000003, LEAST, MOST};
        for (int seed : seeds) {
            Device x = new Device(1);
            x.image(7, 1024, seed);
            int[] places = {0, 1, 63, 64, 127, 128, 1023};
            for (int i : places) {
                x.piece(7, i / 64);
                long want = seed + 7L * i + (long) (i / 64) * seed & 255;
                Due.is("seed " + seed + ", byte " + i, x.byteOf(i % 64), want);
            }
            Due.is("how many there are", x.image(8, 1, seed), 2);
        }
    }

    private static void imagesAreFull() {
        Due.promise(6, "BAD: none such. FULL: 4.");
        Device x = new Device(1);
        for (int i = 1; i <= 4; i++) {
            Due.is("image " + i, x.image(i, 5, 5), i);
            Due.is("so many are there", images(x), i);
        }
        Due.is("a fifth", x.image(5, 5, 5), FULL);
        Due.is("four are there", images(x), 4);
        Due.is("it has no PIECE", x.piece(5, 0), BAD);
        Due.is("BAD ahead of FULL, VERSION", x.image(4, 5, 5), BAD);
        Due.is("BAD ahead of FULL, LENGTH", x.image(5, 0, 5), BAD);
        Due.is("FULL again", x.image(65535, 1024, 5), FULL);
        Due.is("clear", x.clear(), 4);
        Due.is("room again", x.image(1, 5, 5), 1);
    }

    private static void clearOfNoneToFour() {
        Due.promise(7, "All images of the PLAN go: how many there were.");
        for (int count = 0; count <= 4; count++) {
            Device x = new Device(1);
            for (int i = 1; i <= count; i++) {
                x.image(i, 5, 5);
            }
            Due.is(count + " images", x.clear(), count);
            Due.is("none is there", images(x), 0);
            Due.is("clear again", x.clear(), 0);
            for (int i = 1; i <= count; i++) {
                Due.is("no PIECE of " + i, x.piece(i, 0), BAD);
            }
            Due.is("VERSION 1 may come again", x.image(1, 5, 5), 1);
        }
    }

    private static void draftRoles() {
        Due.promise(8, "The DRAFT is the DOCUMENT of a role, VERSION (1 .. 65,535) and END (0 and above)");
        int[] lengths = {21, 16, 16, 7};
        for (int role = 0; role < 4; role++) {
            Device x = new Device(1);
            Due.is("role " + role, x.draft(role, 1, 1), lengths[role]);
            x.show();
            Due.is("the role", x.byteOf(0), role);
        }
        Due.promise(8, "its BODY's length. BAD: none such.");
        int[] wrong = {LEAST, -2, -1, 4, 5, 256, MOST};
        for (int role : wrong) {
            isNoDraft(role, 1, 1);
        }
    }

    private static void isNoDraft(int role, int version, int end) {
        String call = "draft(" + role + ", " + version + ", " + end + ")";
        Device x = new Device(1);
        Due.is(call, x.draft(role, version, end), BAD);
        Due.is(call + ", show", x.show(), BAD);
        Due.is(call + ", sign", x.sign(1), BAD);
        x.draft(2, 9, 9);
        x.sign(4);
        Due.is(call + " behind another", x.draft(role, version, end), BAD);
        Due.is("that one stays", x.show(), 21);
        Bytes.document(2, Bytes.told(9, 9, 1, 0), 4).isOnTape("that one stays", x);
        x.draft(1, 1, 1);
        x.show();
        Bytes.document(1, Bytes.told(1, 1, 9, Bytes.told(9, 9, 1, 0).digest())).isOnTape("TIME tells of it", x);
    }

    private static void draftVersions() {
        Due.promise(8, "VERSION (1 .. 65,535)");
        for (int role = 0; role < 4; role++) {
            int[] good = {1, 2, 255, 256, 65534, 65535};
            for (int version : good) {
                Device x = new Device(1);
                Due.holds("VERSION " + version, x.draft(role, version, 1) > 0);
                x.show();
                Due.is("the VERSION", x.byteOf(3) * 256 + x.byteOf(4), version);
            }
            int[] wrong = {LEAST, -1, 0, 65536, 65537, MOST};
            for (int version : wrong) {
                isNoDraft(role, version, 1);
            }
        }
    }

    private static void draftEnds() {
        Due.promise(8, "END (0 and above)");
        int[] good = {0, 1, 65536, MOST - 1, MOST};
        for (int end : good) {
            Device x = new Device(1);
            Due.is("END " + end, x.draft(1, 1, end), 16);
            x.show();
            Bytes.document(1, Bytes.told(1, end, 1, 0)).isOnTape("END " + end, x);
        }
        int[] wrong = {-1, -2, LEAST};
        for (int end : wrong) {
            isNoDraft(1, 1, end);
        }
    }

    private static void draftLengths() {
        Due.promise(8, "its BODY's length");
        Device x = new Device(1);
        for (int role = 0; role < 4; role++) {
            x.plan(role, 1, 1);
        }
        Due.is("the shortest ROOT", x.draft(0, 1, 1), 18);
        for (int role = 0; role < 4; role++) {
            x.plan(role, 0xF800, 1);
        }
        Due.is("the longest ROOT", x.draft(0, 1, 1), 34);
        for (int i = 0; i <= 4; i++) {
            Due.is(i + " images", x.draft(3, 1, 1), 7 + 12 * i);
            x.image(i + 1, 1024, i);
        }
        for (int key = 0; key < 16; key++) {
            x.sign(key);
        }
        Due.is("the longest DOCUMENT", x.show(), 75);
    }

    private static void draftTellsOneWithout() {
        Due.promise(8, "TIME and LIST tell of what stands in the PLAN as the LIST, the IMAGES that were drafted last "
                + "(VERSION 1, DIGEST 0 without)");
        Device x = new Device(1);
        x.draft(0, 8, 8);
        x.draft(1, 8, 8);
        x.show();
        Bytes.document(1, Bytes.told(8, 8, 1, 0)).isOnTape("TIME without a LIST", x);
        x.draft(2, 8, 8);
        x.show();
        Bytes.document(2, Bytes.told(8, 8, 1, 0)).isOnTape("LIST without IMAGES", x);
        x.draft(3, 65535, 0);
        x.draft(3, 1, 0);
        x.draft(2, 65535, 8);
        x.show();
        Bytes images = new Bytes().num(1, 2).num(0, 4).num(0, 1);
        Bytes list = Bytes.told(65535, 8, 1, images.digest());
        Bytes.document(2, list).isOnTape("LIST of the last IMAGES", x);
        x.draft(1, 1, 8);
        x.show();
        Bytes.document(1, Bytes.told(1, 8, 65535, list.digest())).isOnTape("TIME of the last LIST", x);
    }

    private static void draftStandsAsItWasMade() {
        Due.promise(8, "without keys, by the PLAN");
        Device x = new Device(1);
        x.draft(3, 1, 1);
        x.image(5, 5, 5);
        Due.is("IMAGES as they were drafted", x.show(), 11);
        x.draft(0, 1, 0);
        x.plan(0, 1, 1);
        x.show();
        rootWith(0, FACTORY[0]).isOnTape("ROOT as it was drafted", x);
        x.sign(3);
        x.draft(0, 1, 0);
        Due.is("without keys", x.show(), rootWith(0, 1, 0).size());
    }

    private static void signWantsADraft() {
        Due.promise(9, "BAD: no DRAFT, no such key (0 .. 15).");
        Device x = new Device(1);
        for (int key = -1; key <= 16; key++) {
            Due.is("no DRAFT, sign(" + key + ")", x.sign(key), BAD);
        }
        x.draft(1, 1, 1);
        Due.is("a DRAFT without keys", x.show(), 20);
        Due.is("a DRAFT", x.sign(0), 1);
    }

    private static void signKeys() {
        Due.promise(9, "no such key (0 .. 15)");
        Device x = new Device(1);
        x.draft(1, 1, 1);
        int[] wrong = {LEAST, -16, -1, 16, 17, 31, 32, MOST};
        for (int key : wrong) {
            Due.is("sign(" + key + ")", x.sign(key), BAD);
        }
        Due.is("no key came", x.show(), 20);
        for (int key = 15; key >= 0; key--) {
            Due.is("sign(" + key + ")", x.sign(key), 16 - key);
        }
        Due.is("all came", x.show(), 36);
        Bytes.document(1, Bytes.told(1, 1, 1, 0), 0, 1, 2, 3, 4, 5, 6, 7, 8, 9, 10, 11, 12, 13, 14, 15)
                .isOnTape("all came", x);
    }

    private static void signOnceMore() {
        Due.promise(9, "A key SIGNS the DRAFT's BODY, and comes among its keys, if it is not: how many it has");
        Device x = new Device(1);
        x.draft(1, 1, 1);
        Due.is("sign(3)", x.sign(3), 1);
        Due.is("sign(3) once more", x.sign(3), 1);
        Due.is("sign(2)", x.sign(2), 2);
        Due.is("sign(3) again", x.sign(3), 2);
        x.draft(1, 1, 1);
        Due.is("the same BODY drafted anew has no keys", x.show(), 20);
        Due.is("sign(2)", x.sign(2), 1);
    }

    /** So many are in the table: keys 0 to 15 of the BODIES of TIME, VERSIONS 1 and on. */
    private static Device withSigned(int count) {
        Device x = new Device(1);
        for (int i = 0; i < count; i++) {
            if (i % 16 == 0) {
                x.draft(1, 1 + i / 16, 500);
            }
            Due.is("signature " + (i + 1), x.sign(i % 16), i % 16 + 1);
        }
        return x;
    }

    private static void signTableOf400() {
        Due.promise(9, "FULL: 400 are in the table (of one that is in it, none comes more).");
        Device x = withSigned(399);
        Due.is("one that is in it, of 399", x.sign(14), 15);
        Due.is("the 400th", x.sign(15), 16);
        Due.is("one that is in it, of 400", x.sign(15), 16);
        x.draft(1, 26, 500);
        for (int key = 0; key < 16; key++) {
            Due.is("the 401st, by key " + key, x.sign(key), FULL);
        }
        Due.is("BAD ahead of FULL", x.sign(16), BAD);
        Due.is("none is among its keys", x.show(), 20);
        x.draft(1, 1, 500);
        Due.is("the first one is in it", x.sign(0), 1);
        x.draft(2, 1, 500);
        Due.is("that BODY, though of another role", x.sign(15), 1);
        x.draft(1, 1, 501);
        Due.is("another BODY", x.sign(0), FULL);
        fullTableSignsNothing();
    }

    /** A key that was answered FULL has not SIGNED, though it is put among the keys by hand. */
    private static void fullTableSignsNothing() {
        for (int count = 399; count <= 400; count++) {
            Device x = withSigned(count);
            x.boot();
            x.begin(10);
            x.refuse();
            x.draft(1, 100, 500);
            Due.is("key 3 of a new BODY behind " + count, x.sign(3), count < 400 ? 1 : FULL);
            Bytes.document(1, Bytes.told(100, 500, 1, 0), 3).feedTo(x);
            Due.is("TIME behind " + count, x.answer(), count < 400 ? 3 : -12);
        }
    }

    private static void showOfNone() {
        Due.promise(10, "The DRAFT comes to the tape, instead of what is there: how many bytes. BAD: none.");
        Device x = new Device(1);
        x.feed(1, 2, 3, 4, 5);
        Due.is("no DRAFT", x.show(), BAD);
        new Bytes().num(1, 4).num(2, 4).num(3, 4).num(4, 4).num(5, 4).isOnTape("what was BAD changes nothing", x);
        x.draft(4, 1, 1);
        Due.is("no DRAFT still", x.show(), BAD);
        x.draft(3, 1, 9);
        for (int i = 0; i < 14; i++) {
            x.feed(-1, -1, -1, -1, -1);
        }
        Due.is("a full tape goes", x.show(), 11);
        Bytes.document(3, new Bytes().num(1, 2).num(9, 4).num(0, 1)).isOnTape("the DRAFT alone", x);
        x.spoil(3, 255);
        Due.is("show", x.show(), 11);
        Bytes.document(3, new Bytes().num(1, 2).num(9, 4).num(0, 1)).isOnTape("the DRAFT was not spoiled", x);
    }

    private static void pieceOfNoImage() {
        Due.promise(11, "BAD: no such image, piece.");
        Device x = new Device(1);
        x.feed(1, 2, 3, 4, 5);
        Due.is("no image", x.piece(1, 0), BAD);
        Due.is("VERSION 0 of none", x.piece(0, 0), BAD);
        x.image(10, 64, 1);
        x.image(20, 64, 2);
        x.image(30, 64, 3);
        int[] wrong = {LEAST, -10, 0, 9, 11, 19, 21, 29, 31, 65546, MOST};
        for (int version : wrong) {
            Due.is("VERSION " + version, x.piece(version, 0), BAD);
        }
        Due.is("the tape stays", x.byteOf(3), 1);
        Due.is("and is as long", x.byteOf(19), 5);
        for (int i = 1; i <= 3; i++) {
            Due.is("VERSION " + 10 * i, x.piece(10 * i, 0), 64);
            Due.is("its first byte", x.byteOf(0), i);
        }
        x.image(40, 64, 4);
        Due.is("the fourth", x.piece(40, 0), 64);
        Due.is("its first byte", x.byteOf(0), 4);
    }

    private static void pieceOfNoNumber() {
        Due.promise(11, "PIECE k of the image of a VERSION of the PLAN comes to the tape, instead of what is there: how "
                + "many bytes.");
        int[] lengths = {1, 63, 64, 65, 127, 128, 129, 960, 961, 1023, 1024};
        for (int length : lengths) {
            Device x = new Device(1);
            x.image(3, length, 9);
            x.feed(1, 2, 3, 4, 5);
            int last = (length - 1) / 64;
            int[] wrong = {LEAST, -1, last + 1, last + 2, 16, 17, 1 << 26, MOST};
            for (int k : wrong) {
                Due.is("LENGTH " + length + ", PIECE " + k, x.piece(3, k), BAD);
            }
            new Bytes().num(1, 4).num(2, 4).num(3, 4).num(4, 4).num(5, 4).isOnTape("the tape stays", x);
            Bytes program = Bytes.program(length, 9);
            Due.is("LENGTH " + length + ", PIECE 0", x.piece(3, 0), Math.min(length, 64));
            program.part(0, Math.min(length, 64)).isOnTape("PIECE 0", x);
            Due.is("LENGTH " + length + ", the last", x.piece(3, last), length - 64 * last);
            program.part(64 * last, length).isOnTape("the last PIECE", x);
        }
    }
}
